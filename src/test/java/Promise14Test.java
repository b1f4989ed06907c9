/** Promise 14: toggleFill. */
public final class Promise14Test {
    public static void main(String[] args) {
        ring();
        nested();
        refused();
        changesOnlyTheFillPlane();
        Check.finish();
    }

    private static void toggle(BorderTracer tracer, int k, String... want) {
        Check.due("toggleFill(" + k + ")", tracer.toggleFill(k), true);
        String due = String.join("\n", want) + "\n";
        String got = Pictures.filled(tracer, want[0].length(), want.length);
        Check.due("after toggleFill(" + k + ") the fill plane is as due:\n" + got, got.equals(due), true);
    }

    private static void ring() {
        BorderTracer tracer = Pictures.drawAndTrace("#####", "#...#", "#.#.#", "#...#", "#####");
        toggle(tracer, 1, ".....", ".###.", ".###.", ".###.", ".....");
        toggle(tracer, 2, ".....", ".###.", ".#.#.", ".###.", ".....");
        toggle(tracer, 0, "#####", "#...#", "#.#.#", "#...#", "#####");
        toggle(tracer, 0, ".....", ".###.", ".#.#.", ".###.", ".....");
        toggle(tracer, 1, ".....", ".....", "..#..", ".....", ".....");
        toggle(tracer, 2, ".....", ".....", ".....", ".....", ".....");
    }

    private static void nested() {
        BorderTracer tracer = Pictures.drawAndTrace("#.####", "#.#..#", "..#.##", "..###.");
        toggle(tracer, 0, "#.....", "#.....", "......", "......");
        toggle(tracer, 1, "#.####", "#.####", "..####", "..###.");
        toggle(tracer, 2, "#.####", "#.#..#", "..#.##", "..###.");
    }

    private static void refused() {
        BorderTracer tracer = Pictures.draw(Pictures.RING);
        Check.due("not traced", tracer.toggleFill(0), false);
        Check.due("fill plane empty", Pictures.filled(tracer, 8, 8).contains("#"), false);
        Check.due("a refused call does not trace", tracer.contourCount(), BorderTracer.NOT_TRACED);
        tracer.trace();
        tracer.toggleFill(1);
        String before = Pictures.state(tracer, 8, 8);
        int[] wrong = {Integer.MIN_VALUE, -256, -2, -1, 3, 4, 255, 256, 65536, Integer.MAX_VALUE};
        for (int k : wrong) {
            Check.due("toggleFill(" + k + ")", tracer.toggleFill(k), false);
        }
        Check.due("refused calls change nothing", Pictures.state(tracer, 8, 8).equals(before), true);
    }

    private static void changesOnlyTheFillPlane() {
        BorderTracer tracer = Pictures.drawAndTrace(Pictures.NESTED);
        String before = Pictures.state(tracer, 14, 7);
        for (int k = 0; k < 6; k++) {
            tracer.toggleFill(k);
            Check.due("still traced", tracer.contourCount(), 6);
            tracer.toggleFill(k);
            Check.due("twice restores all", Pictures.state(tracer, 14, 7).equals(before), true);
        }
    }
}
