/** Promise 4: getPixel. */
public final class Promise04Test {
    private static final PlaneAnswers PIXELS =
        new PlaneAnswers("getPixel", BorderTracer::getPixel, situation -> situation.pixels);

    public static void main(String[] args) {
        Check.sentence("answers 0 if (x,y) is not a pixel");
        PIXELS.notAPixel();
        Check.sentence("It changes nothing");
        PIXELS.changesNothing();
        Check.sentence("is answered in every state");
        PIXELS.inEveryState();
        value();
        Check.finish();
    }

    private static void value() {
        Check.sentence("else the pixel's value (0 or 1)");
        BorderTracer tracer = new BorderTracer(5, 3);
        picture("fresh", tracer, ".....", ".....", ".....");
        tracer.setRow(0, 0b10011);
        tracer.setRow(1, 0b11111);
        tracer.setPixel(2, 1, 0);
        tracer.setPixel(4, 2, -7);
        picture("not traced", tracer, "##..#", "##.##", "....#");
        tracer.trace();
        picture("traced", tracer, "##..#", "##.##", "....#");
        tracer.toggleFill(0);
        picture("filled", tracer, "##..#", "##.##", "....#");
    }

    private static void picture(String when, BorderTracer tracer, String... rows) {
        Check.due(when, Pictures.pixels(tracer, 5, 3), Pictures.lines(rows));
    }
}
