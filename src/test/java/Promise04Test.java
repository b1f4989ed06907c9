/** Promise 4: getPixel. */
public final class Promise04Test {
    public static void main(String[] args) {
        BorderTracer tracer = new BorderTracer(5, 3);
        picture("fresh", tracer, ".....", ".....", ".....");
        tracer.setRow(0, 0b10011);
        tracer.setRow(1, 0b11111);
        tracer.setPixel(2, 1, 0);
        tracer.setPixel(4, 2, -7);
        picture("not traced", tracer, "##..#", "##.##", "....#");
        tracer.trace();
        picture("traced", tracer, "##..#", "##.##", "....#");
        tracer.toggleFill(0);
        picture("filled", tracer, "##..#", "##.##", "....#");
        changesNothing();
        Check.finish();
    }

    private static void picture(String when, BorderTracer tracer, String... rows) {
        for (int y = -1; y <= 17; y++) {
            for (int x = -1; x <= 17; x++) {
                boolean in = y >= 0 && y < rows.length && x >= 0 && x < rows[0].length();
                int want = in && rows[y].charAt(x) == '#' ? 1 : 0;
                Check.due(when + " getPixel " + x + " " + y, tracer.getPixel(x, y), want);
            }
        }
        for (int wrong : Pictures.NOT_A_COORDINATE) {
            Check.due(when + " getPixel x " + wrong, tracer.getPixel(wrong, 0), 0);
            Check.due(when + " getPixel y " + wrong, tracer.getPixel(0, wrong), 0);
            Check.due(when + " getPixel both " + wrong, tracer.getPixel(wrong, wrong), 0);
        }
    }

    private static void changesNothing() {
        BorderTracer tracer = Pictures.drawAndTrace(Pictures.RING);
        tracer.toggleFill(1);
        String before = Pictures.state(tracer, 8, 8);
        tracer.getPixel(3, 3);
        tracer.getPixel(-1, 8);
        Check.due("getPixel changes nothing", Pictures.state(tracer, 8, 8).equals(before), true);
    }
}
