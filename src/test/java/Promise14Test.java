/** Promise 14: toggleFill. */
public final class Promise14Test {
    public static void main(String[] args) {
        refused("TRACED false");
        refused("k negative");
        refused("k >= n");
        ring();
        nested();
        firstAndLast();
        changesOnlyTheFillPlane();
        twice();
        Check.finish();
    }

    private static void refused(String why) {
        Check.sentence("is refused and answers false if k is not valid (" + why + "); then nothing changes");
        boolean notTraced = why.equals("TRACED false");
        for (Situation situation : notTraced ? Situation.notTraced() : Situation.traced()) {
            Unchanged unchanged = new Unchanged(situation);
            for (int k : notTraced ? Wrong.numbers(0) : wrongNumbers(why, situation)) {
                unchanged.refused("toggleFill(" + k + ")", tracer -> tracer.toggleFill(k));
            }
            unchanged.end("refused toggleFill");
        }
    }

    private static int[] wrongNumbers(String why, Situation situation) {
        return why.equals("k negative") ? Wrong.negativeNumbers() : Wrong.numbersFrom(situation.count);
    }

    private static void toggle(BorderTracer tracer, int k, String... want) {
        Check.due("toggleFill(" + k + ")", tracer.toggleFill(k), true);
        String got = Pictures.filled(tracer, want[0].length(), want.length);
        Check.due("fill plane after toggleFill(" + k + ")", got, Pictures.lines(want));
    }

    private static void ring() {
        Check.sentence("Otherwise every pixel in INTERIOR(k) has its fill plane value changed from 0 to 1 or from 1 "
            + "to 0");
        BorderTracer tracer = Pictures.drawAndTrace("#####", "#...#", "#.#.#", "#...#", "#####");
        toggle(tracer, 1, ".....", ".###.", ".###.", ".###.", ".....");
        toggle(tracer, 2, ".....", ".###.", ".#.#.", ".###.", ".....");
        toggle(tracer, 0, "#####", "#...#", "#.#.#", "#...#", "#####");
        toggle(tracer, 0, ".....", ".###.", ".#.#.", ".###.", ".....");
        toggle(tracer, 1, ".....", ".....", "..#..", ".....", ".....");
        toggle(tracer, 2, ".....", ".....", ".....", ".....", ".....");
    }

    private static void nested() {
        Check.sentence("all other fill values stay; it answers true");
        BorderTracer tracer = Pictures.drawAndTrace("#.####", "#.#..#", "..#.##", "..###.");
        toggle(tracer, 0, "#.....", "#.....", "......", "......");
        toggle(tracer, 1, "#.####", "#.####", "..####", "..###.");
        toggle(tracer, 2, "#.####", "#.#..#", "..#.##", "..###.");
        // A bay and a corner outside lie within the rows and columns of the border, but not in its interior.
        BorderTracer bay = Pictures.drawAndTrace("#.##", "#..#", "###.");
        toggle(bay, 0, "#.##", "#..#", "###.");
    }

    private static void firstAndLast() {
        Check.sentence("all other fill values stay: the first and the last contour, the first and the last pixel");
        BorderTracer dots = Pictures.drawAndTrace("#.#.#.#.#.#.#.#.");
        toggle(dots, 7, "..............#.");
        toggle(dots, 0, "#.............#.");
        BorderTracer corners = new BorderTracer(16, 16);
        corners.setPixel(0, 0, 1);
        corners.setPixel(15, 15, 1);
        corners.trace();
        Check.due("last corner", corners.toggleFill(1), true);
        for (int cell = 0; cell < 256; cell++) {
            Check.due("cell " + cell, corners.getFilled(cell % 16, cell / 16), cell == 255 ? 1 : 0);
        }
        Check.due("first corner", corners.toggleFill(0), true);
        for (int cell = 0; cell < 256; cell++) {
            Check.due("cell " + cell, corners.getFilled(cell % 16, cell / 16), cell == 255 || cell == 0 ? 1 : 0);
        }
    }

    private static void changesOnlyTheFillPlane() {
        Check.sentence("Pixels, TRACED and contours do not change.");
        for (Situation situation : Situation.traced()) {
            BorderTracer tracer = situation.make();
            String contours = State.contours(tracer);
            for (int k = 0; k < situation.count; k++) {
                Check.due(situation.name + ": toggleFill(" + k + ")", tracer.toggleFill(k), true);
                String pixels = Pictures.pixels(tracer, situation.width(), situation.height());
                Check.due(situation.name + ": pixels", pixels, Pictures.lines(situation.pixels));
                Check.due(situation.name + ": traced", tracer.contourCount(), situation.count);
                Check.due(situation.name + ": contours", State.contours(tracer), contours);
            }
        }
    }

    private static void twice() {
        Check.sentence("Calling it twice with the same k restores the fill plane.");
        for (Situation situation : Situation.traced()) {
            BorderTracer tracer = situation.make();
            String before = State.of(tracer);
            for (int k = 0; k < situation.count; k++) {
                tracer.toggleFill(k);
                String once = Pictures.filled(tracer, situation.width(), situation.height());
                boolean restored = once.equals(Pictures.lines(situation.filled));
                Check.due(situation.name + ": once is as before", restored, false);
                tracer.toggleFill(k);
                Check.due(situation.name + ": twice", State.of(tracer), before);
            }
        }
    }
}
