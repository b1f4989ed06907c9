/** Promise 2: setPixel. */
public final class Promise02Test {
    private static final int[] NONZERO = {1, 2, 3, 16, 256, 65536, 1 << 30, Integer.MAX_VALUE};
    private static final int[] NEGATIVE = {-1, -2, -256, -65536, Integer.MIN_VALUE + 1, Integer.MIN_VALUE};

    public static void main(String[] args) {
        refused();
        nonzeroSets();
        negativeSets();
        zeroClears();
        invalidates();
        invalidatesUnchanged();
        noOtherPixel();
        Check.finish();
    }

    private static void refused() {
        Check.sentence("is refused and answers false if (x,y) is not a pixel; then nothing changes");
        for (Situation situation : Situation.all()) {
            Unchanged unchanged = new Unchanged(situation);
            for (int[] point : Wrong.points(situation.width(), situation.height())) {
                for (int value : new int[] {-1, 0, 1}) {
                    String call = "setPixel(" + point[0] + ", " + point[1] + ", " + value + ")";
                    unchanged.refused(call, tracer -> tracer.setPixel(point[0], point[1], value));
                }
            }
            unchanged.end("refused setPixel");
        }
    }

    private static void nonzeroSets() {
        Check.sentence("pixel (x,y) becomes 1 if value != 0 (any nonzero value)");
        becomes(NONZERO, 1);
    }

    private static void negativeSets() {
        Check.sentence("pixel (x,y) becomes 1 if value != 0 (negative ones included)");
        becomes(NEGATIVE, 1);
    }

    private static void zeroClears() {
        Check.sentence("else 0; the call answers true");
        becomes(new int[] {0}, 0);
    }

    /** At the four corners and inside, over a 0 and over a 1. */
    private static void becomes(int[] values, int want) {
        int[][] places = {{0, 0}, {2, 0}, {0, 3}, {2, 3}, {1, 2}};
        for (int[] place : places) {
            for (int value : values) {
                for (int old = 0; old <= 1; old++) {
                    BorderTracer tracer = new BorderTracer(3, 4);
                    Check.due("setPixel to " + old, tracer.setPixel(place[0], place[1], old), true);
                    Check.due("setPixel to " + value, tracer.setPixel(place[0], place[1], value), true);
                    Check.due("pixel " + value + " over " + old, tracer.getPixel(place[0], place[1]), want);
                }
            }
        }
    }

    private static void invalidates() {
        Check.sentence("then INVALIDATE happens");
        for (Situation situation : Situation.all()) {
            BorderTracer tracer = situation.make();
            int x = situation.width() - 1;
            int y = situation.height() - 1;
            Check.due(situation.name + ": setPixel", tracer.setPixel(x, y, 1 - tracer.getPixel(x, y)), true);
            Invalidated.look(situation.name + ": last pixel changed:", tracer);
        }
    }

    private static void invalidatesUnchanged() {
        Check.sentence("also when the value did not change; the call answers true");
        for (Situation situation : Situation.all()) {
            for (int y = 0; y < situation.height(); y++) {
                for (int x = 0; x < situation.width(); x += 3) {
                    BorderTracer tracer = situation.make();
                    int old = tracer.getPixel(x, y);
                    Check.due(situation.name + ": setPixel", tracer.setPixel(x, y, old * -7), true);
                    Check.due(situation.name + ": pixel", tracer.getPixel(x, y), old);
                    Check.due(situation.name + ": count", tracer.contourCount(), BorderTracer.NOT_TRACED);
                    Check.due(situation.name + ": kind", tracer.contourKind(0), BorderTracer.KIND_NONE);
                    Check.due(situation.name + ": filled", Pictures.filled(tracer, 16, 16).contains("#"), false);
                }
            }
            BorderTracer tracer = situation.make();
            tracer.setPixel(0, 0, tracer.getPixel(0, 0));
            Invalidated.look(situation.name + ": first pixel set as it was:", tracer);
        }
    }

    private static void noOtherPixel() {
        Check.sentence("No other pixel changes.");
        for (int value = 0; value <= 1; value++) {
            for (int cell = 0; cell < 256; cell++) {
                BorderTracer tracer = new BorderTracer(16, 16);
                for (int y = 0; y < 16; y++) {
                    tracer.setRow(y, value - 1);
                }
                tracer.setPixel(cell % 16, cell / 16, value);
                for (int other = 0; other < 256; other++) {
                    int got = tracer.getPixel(other % 16, other / 16);
                    Check.due("pixel " + other + " after " + cell, got, other == cell ? value : 1 - value);
                }
            }
        }
    }
}
