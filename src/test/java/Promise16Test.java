/** Promise 16: getFilled. */
public final class Promise16Test {
    private static final String[] EMPTY = {"...", "...", "...", "..."};

    public static void main(String[] args) {
        BorderTracer tracer = Pictures.draw("###", "#.#", "###", "...");
        picture("not traced", tracer, EMPTY);
        tracer.trace();
        picture("traced", tracer, EMPTY);
        tracer.toggleFill(1);
        picture("hole filled", tracer, "...", ".#.", "...", "...");
        tracer.toggleFill(0);
        picture("ring filled", tracer, "###", "#.#", "###", "...");
        tracer.toggleFill(1);
        picture("hole filled again", tracer, "###", "###", "###", "...");
        tracer.setPixel(3, 0, 1);
        picture("after a refused setPixel", tracer, "###", "###", "###", "...");
        tracer.setPixel(0, 3, 0);
        picture("invalidated", tracer, EMPTY);
        changesNothing();
        Check.finish();
    }

    private static void picture(String when, BorderTracer tracer, String... rows) {
        for (int y = -1; y <= 17; y++) {
            for (int x = -1; x <= 17; x++) {
                boolean in = y >= 0 && y < rows.length && x >= 0 && x < rows[0].length();
                int want = in && rows[y].charAt(x) == '#' ? 1 : 0;
                Check.due(when + " getFilled " + x + " " + y, tracer.getFilled(x, y), want);
            }
        }
        for (int wrong : Pictures.NOT_A_COORDINATE) {
            Check.due(when + " getFilled x " + wrong, tracer.getFilled(wrong, 0), 0);
            Check.due(when + " getFilled y " + wrong, tracer.getFilled(0, wrong), 0);
            Check.due(when + " getFilled both " + wrong, tracer.getFilled(wrong, wrong), 0);
        }
    }

    private static void changesNothing() {
        BorderTracer tracer = Pictures.drawAndTrace(Pictures.RING);
        tracer.toggleFill(0);
        String before = Pictures.state(tracer, 8, 8);
        tracer.getFilled(3, 3);
        tracer.getFilled(8, -1);
        Check.due("getFilled changes nothing", Pictures.state(tracer, 8, 8).equals(before), true);
    }
}
