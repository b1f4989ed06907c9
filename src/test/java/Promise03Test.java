/** Promise 3: setRow. */
public final class Promise03Test {
    private static final int[] ROWS = {0, 1, 2, 3, 0x5555, 0xaaaa, 0x7fff, 0x8000, 0x8001, 0xffff, 0x1234};

    public static void main(String[] args) {
        refused(true);
        refused(false);
        bits();
        leastSignificantFirst();
        ignoredBits();
        signBit();
        invalidates();
        invalidatesUnchanged();
        noOtherRow();
        Check.finish();
    }

    private static void refused(boolean negative) {
        String which = negative ? "y < 0" : "y >= H";
        Check.sentence("is refused and answers false if " + which + "; then nothing changes");
        for (Situation situation : Situation.all()) {
            Unchanged unchanged = new Unchanged(situation);
            for (int y : Wrong.coordinates(situation.height())) {
                if (y < 0 == negative) {
                    unchanged.refused("setRow(" + y + ", -1)", tracer -> tracer.setRow(y, -1));
                    unchanged.refused("setRow(" + y + ", 0)", tracer -> tracer.setRow(y, 0));
                }
            }
            unchanged.end("refused setRow");
        }
    }

    private static void bits() {
        Check.sentence("for every x in 0..W-1, pixel (x,y) becomes bit x of bits, that is (bits >>> x) & 1");
        for (int width = 1; width <= 16; width++) {
            for (int bits : ROWS) {
                for (int old = -1; old <= 0; old++) {
                    row(width, old, bits);
                }
            }
        }
    }

    private static void row(int width, int old, int bits) {
        for (int y = 0; y < 3; y++) {
            BorderTracer tracer = new BorderTracer(width, 3);
            tracer.setRow(y, old);
            Check.due("setRow", tracer.setRow(y, bits), true);
            for (int x = 0; x < width; x++) {
                String pixel = "width " + width + " bits " + bits + " pixel " + x + " " + y;
                Check.due(pixel, tracer.getPixel(x, y), (bits & (1 << x)) != 0 ? 1 : 0);
            }
        }
    }

    private static void leastSignificantFirst() {
        Check.sentence("(bit 0 is the least significant)");
        BorderTracer tracer = new BorderTracer(16, 1);
        tracer.setRow(0, 1);
        Check.due("bits 1", Pictures.pixels(tracer, 16, 1), "#...............\n");
        tracer.setRow(0, 0x8000);
        Check.due("bits 0x8000", Pictures.pixels(tracer, 16, 1), "...............#\n");
        tracer.setRow(0, 0b1011);
        Check.due("bits 1011", Pictures.pixels(tracer, 16, 1), "##.#............\n");
    }

    /** An ignored bit must not show later either, as a pixel that no one can ask for. */
    private static void ignoredBits() {
        Check.sentence("bits W..31 are ignored");
        for (int width = 1; width <= 16; width++) {
            for (int bit = width; bit <= 31; bit++) {
                String made = "width " + width + " bit " + bit;
                BorderTracer tracer = new BorderTracer(width, 2);
                tracer.setRow(0, 1 << bit);
                Check.due(made + " alone", Pictures.pixels(tracer, 18, 3).contains("#"), false);
                Check.due(made + " alone, equal", tracer.filledEqualsBitmap(), true);
                Check.due(made + " alone, contours", tracer.trace(), 0);
                tracer.setRow(0, ~(1 << bit));
                String full = "#".repeat(width) + ".".repeat(18 - width);
                Check.due(made + " missing", Pictures.pixels(tracer, 18, 1), full + "\n");
                Check.due(made + " missing, contours", tracer.trace(), 1);
                Check.due(made + " missing, area", tracer.contourArea(0), width);
            }
        }
    }

    private static void signBit() {
        Check.sentence("the sign bit of a negative bits matters only when W would reach bit 31, which it never does");
        BorderTracer tracer = new BorderTracer(16, 1);
        tracer.setRow(0, Integer.MIN_VALUE);
        Check.due("only the sign bit", Pictures.pixels(tracer, 16, 1), "................\n");
        tracer.setRow(0, -1);
        Check.due("all bits", Pictures.pixels(tracer, 16, 1), "################\n");
        tracer.setRow(0, Integer.MIN_VALUE + 5);
        Check.due("the sign bit and 5", Pictures.pixels(tracer, 16, 1), "#.#.............\n");
        tracer.setRow(0, -32768);
        Check.due("-32768", Pictures.pixels(tracer, 16, 1), "...............#\n");
        tracer.setRow(0, Integer.MAX_VALUE);
        Check.due("all bits but the sign", Pictures.pixels(tracer, 16, 1), "################\n");
    }

    private static void invalidates() {
        Check.sentence("Then INVALIDATE happens");
        for (Situation situation : Situation.all()) {
            BorderTracer tracer = situation.make();
            int y = situation.height() - 1;
            Check.due(situation.name + ": setRow", tracer.setRow(y, 1 - tracer.getPixel(0, y)), true);
            Invalidated.look(situation.name + ": last row changed:", tracer);
        }
    }

    private static void invalidatesUnchanged() {
        Check.sentence("also when nothing changed; the call answers true");
        for (Situation situation : Situation.all()) {
            for (int y = 0; y < situation.height(); y++) {
                BorderTracer tracer = situation.make();
                int bits = 0;
                for (int x = 0; x < situation.width(); x++) {
                    bits |= tracer.getPixel(x, y) << x;
                }
                Check.due(situation.name + ": setRow", tracer.setRow(y, bits), true);
                String pixels = Pictures.pixels(tracer, situation.width(), situation.height());
                Check.due(situation.name + ": pixels", pixels, Pictures.lines(situation.pixels));
                Invalidated.look(situation.name + ": row " + y + " set as it was:", tracer);
            }
        }
    }

    private static void noOtherRow() {
        Check.sentence("Pixels of other rows do not change.");
        for (int width = 1; width <= 16; width++) {
            for (int y = 0; y < 16; y++) {
                BorderTracer tracer = new BorderTracer(width, 16);
                tracer.setRow(y, -1);
                othersAre(tracer, width, y, 0);
                for (int other = 0; other < 16; other++) {
                    tracer.setRow(other, -1);
                }
                tracer.setRow(y, 0);
                othersAre(tracer, width, y, 1);
            }
        }
    }

    private static void othersAre(BorderTracer tracer, int width, int row, int want) {
        for (int y = 0; y < 16; y++) {
            for (int x = 0; x < width; x++) {
                String pixel = "width " + width + " row " + row + " pixel " + x + " " + y;
                Check.due(pixel, tracer.getPixel(x, y), y == row ? 1 - want : want);
            }
        }
    }
}
