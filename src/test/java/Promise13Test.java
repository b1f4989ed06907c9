/** Promise 13: contourOf. */
public final class Promise13Test {
    private static final String[] NESTED_NUMBERS = {
        "00000000000--1",
        "02222222220--1",
        "02333222220--1",
        "02343225520---",
        "02333225520---",
        "02222222220---",
        "00000000000---"
    };
    private static final String[] DIAMOND_NUMBERS = {
        "--0--",
        "-010-",
        "01110",
        "-010-",
        "--0--"
    };

    public static void main(String[] args) {
        notTraced();
        notAPixel();
        outside();
        regions();
        changesNothing();
        Check.finish();
    }

    private static void notTraced() {
        Check.sentence("contourOf(x, y) answers NO_CONTOUR (-1) if TRACED is false");
        for (Situation situation : Situation.notTraced()) {
            BorderTracer tracer = situation.make();
            for (int y = -1; y <= 16; y++) {
                for (int x = -1; x <= 16; x++) {
                    Check.due(situation.name + ": " + x + " " + y, tracer.contourOf(x, y), -1);
                }
            }
        }
    }

    private static void notAPixel() {
        Check.sentence("contourOf(x, y) answers NO_CONTOUR (-1) if (x,y) is not a pixel");
        for (Situation situation : Situation.all()) {
            noPixels(situation.name, situation.make(), situation.width(), situation.height());
        }
        for (int size = 0; size < 256; size++) {
            int width = 1 + size % 16;
            int height = 1 + size / 16;
            BorderTracer tracer = Pictures.drawAndTrace(Situation.full(width, height));
            noPixels("full " + width + " x " + height, tracer, width, height);
        }
    }

    private static void noPixels(String name, BorderTracer tracer, int width, int height) {
        for (int[] point : Wrong.points(width, height)) {
            String call = name + ": contourOf(" + point[0] + ", " + point[1] + ")";
            Check.due(call, tracer.contourOf(point[0], point[1]), BorderTracer.NO_CONTOUR);
        }
    }

    private static void outside() {
        Check.sentence("contourOf(x, y) answers NO_CONTOUR (-1) if pixel (x,y) lies in OUTSIDE");
        numbers(new String[] {"..", ".."}, "--", "--");
        numbers(new String[] {"."}, "-");
        numbers(new String[] {"###", "#.#", "#.#"}, "000", "0-0", "0-0");
        numbers(new String[] {"#.#", "#.#", "###"}, "0-0", "0-0", "000");
        // Wider than high and open below, higher than wide and open at the right.
        numbers(new String[] {"#####", "#...#", "##.##"}, "00000", "0---0", "00-00");
        numbers(new String[] {"###", "#.#", "#..", "#.#", "###"}, "000", "0-0", "0--", "0-0", "000");
        numbers(new String[] {"###", "..#", "###"}, "000", "--0", "000");
        numbers(new String[] {"###", "#..", "###"}, "000", "0--", "000");
        BorderTracer empty = new BorderTracer(16, 16);
        empty.trace();
        for (int cell = 0; cell < 256; cell++) {
            Check.due("empty: " + cell, empty.contourOf(cell % 16, cell / 16), BorderTracer.NO_CONTOUR);
        }
    }

    private static void regions() {
        Check.sentence("Otherwise it answers the number of the contour whose region holds pixel (x,y): for a "
            + "foreground pixel the outer contour of its foreground component, for a background pixel in a hole the "
            + "hole contour of that hole.");
        numbers(Pictures.NESTED, NESTED_NUMBERS);
        numbers(Pictures.DIAMOND, DIAMOND_NUMBERS);
        numbers(new String[] {"##.", "#.#", "###"}, "00-", "010", "000");
        numbers(new String[] {"#"}, "0");
        numbers(new String[] {"#.#.#"}, "0-1-2");
    }

    private static void numbers(String[] picture, String... want) {
        BorderTracer tracer = Pictures.drawAndTrace(picture);
        for (int y = 0; y < want.length; y++) {
            for (int x = 0; x < want[y].length(); x++) {
                char digit = want[y].charAt(x);
                Check.due("contourOf " + x + " " + y, tracer.contourOf(x, y), digit == '-' ? -1 : digit - '0');
            }
        }
    }

    private static void changesNothing() {
        Check.sentence("It changes nothing.");
        for (Situation situation : Situation.all()) {
            Unchanged unchanged = new Unchanged(situation);
            for (int y = -1; y <= situation.height(); y++) {
                for (int x = -1; x <= situation.width(); x++) {
                    asked(unchanged, x, y);
                }
            }
            unchanged.end("contourOf");
        }
    }

    private static void asked(Unchanged unchanged, int x, int y) {
        unchanged.by("contourOf(" + x + ", " + y + ")", tracer -> tracer.contourOf(x, y));
    }
}
