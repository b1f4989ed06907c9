/** Promise 16: getFilled. */
public final class Promise16Test {
    private static final String[] EMPTY = {"...", "...", "...", "..."};
    private static final PlaneAnswers FILLED =
        new PlaneAnswers("getFilled", BorderTracer::getFilled, situation -> situation.filled);

    public static void main(String[] args) {
        Check.sentence("getFilled(x, y) answers 0 if (x,y) is not a pixel");
        FILLED.notAPixel();
        Check.sentence("It is answered in every state");
        FILLED.inEveryState();
        Check.sentence("changes nothing");
        FILLED.changesNothing();
        value();
        Check.finish();
    }

    private static void value() {
        Check.sentence("else its fill plane value (0 or 1)");
        BorderTracer tracer = Pictures.draw("###", "#.#", "###", "...");
        picture("not traced", tracer, EMPTY);
        tracer.trace();
        picture("traced", tracer, EMPTY);
        tracer.toggleFill(1);
        picture("hole filled", tracer, "...", ".#.", "...", "...");
        tracer.toggleFill(0);
        picture("ring filled", tracer, "###", "#.#", "###", "...");
        tracer.toggleFill(1);
        picture("hole filled again", tracer, "###", "###", "###", "...");
        tracer.setPixel(3, 0, 1);
        picture("after a refused setPixel", tracer, "###", "###", "###", "...");
        tracer.setPixel(0, 3, 0);
        picture("invalidated", tracer, EMPTY);
    }

    private static void picture(String when, BorderTracer tracer, String... rows) {
        Check.due(when, Pictures.filled(tracer, 3, 4), Pictures.lines(rows));
    }
}
