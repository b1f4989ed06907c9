/** Promise 12: hasEdge. */
public final class Promise12Test {
    public static void main(String[] args) {
        notTraced();
        numberNegative();
        numberTooLarge();
        notAPixel();
        wrongSide();
        ring();
        diamond();
        outerCells();
        countsAreLengths();
        changesNothing();
        Check.finish();
    }

    private static void notTraced() {
        Check.sentence("answers false if k is not valid: TRACED false");
        for (Situation situation : Situation.notTraced()) {
            BorderTracer tracer = situation.make();
            for (int k = -1; k < 9; k++) {
                noEdges(situation, tracer, k);
            }
        }
    }

    private static void numberNegative() {
        Check.sentence("answers false if k is not valid: k negative");
        for (Situation situation : Situation.traced()) {
            for (int k : Wrong.negativeNumbers()) {
                noEdges(situation, situation.make(), k);
            }
        }
    }

    private static void numberTooLarge() {
        Check.sentence("answers false if k is not valid: k >= n");
        for (Situation situation : Situation.traced()) {
            for (int k : Wrong.numbersFrom(situation.count)) {
                noEdges(situation, situation.make(), k);
            }
        }
    }

    private static void noEdges(Situation situation, BorderTracer tracer, int k) {
        for (int y = -1; y <= situation.height(); y++) {
            for (int x = -1; x <= situation.width(); x++) {
                sides(situation.name, tracer, k, x, y, "0000");
            }
        }
    }

    private static void notAPixel() {
        Check.sentence("answers false if (x,y) is not a pixel");
        for (Situation situation : Situation.traced()) {
            BorderTracer tracer = situation.make();
            for (int[] point : Wrong.points(situation.width(), situation.height())) {
                for (int k = 0; k < situation.count; k++) {
                    sides(situation.name, tracer, k, point[0], point[1], "0000");
                }
            }
        }
    }

    /** Asked of pixels all of whose sides are edges, of the first contour and of the last. */
    private static void wrongSide() {
        Check.sentence("answers false if side is not in 0..3");
        BorderTracer pixel = Pictures.drawAndTrace("#");
        BorderTracer ring = Pictures.drawAndTrace(Pictures.RING);
        sides("one pixel", pixel, 0, 0, 0, "1111");
        sides("corner pixel", ring, 0, 6, 6, "1111");
        sides("island", ring, 2, 3, 3, "1111");
        for (int side : Wrong.SIDES) {
            Check.due("one pixel, side " + side, pixel.hasEdge(0, 0, 0, side), false);
            Check.due("corner pixel, side " + side, ring.hasEdge(0, 6, 6, side), false);
            Check.due("island, side " + side, ring.hasEdge(2, 3, 3, side), false);
        }
        for (Situation situation : Situation.traced()) {
            BorderTracer tracer = situation.make();
            for (int cell = 0; cell < 256; cell++) {
                for (int side : Wrong.SIDES) {
                    boolean got = tracer.hasEdge(0, cell % 16, cell / 16, side);
                    Check.due(situation.name + ": cell " + cell + " side " + side, got, false);
                }
            }
        }
    }

    /** In the order top, right, bottom, left. */
    private static void ring() {
        Check.sentence("Otherwise it answers true exactly when ((x,y), side) is an edge of contour k");
        BorderTracer tracer = Pictures.drawAndTrace(Pictures.RING);
        sides("ring", tracer, 0, 1, 1, "1001");
        sides("ring", tracer, 0, 3, 1, "1000");
        sides("ring", tracer, 0, 5, 5, "0110");
        sides("ring", tracer, 0, 6, 6, "1111");
        sides("ring", tracer, 1, 3, 1, "0010");
        sides("ring", tracer, 1, 5, 3, "0001");
        sides("ring", tracer, 1, 3, 5, "1000");
        sides("ring", tracer, 1, 1, 3, "0100");
        sides("ring", tracer, 1, 1, 1, "0000");
        // The island's edges belong to the island, not to the hole round it.
        sides("ring", tracer, 1, 3, 3, "0000");
        sides("ring", tracer, 2, 3, 3, "1111");
        sides("ring", tracer, 2, 1, 3, "0000");
        // Background pixels have no edges, of no contour.
        sides("ring", tracer, 0, 0, 1, "0000");
        sides("ring", tracer, 1, 2, 2, "0000");
        sides("ring", tracer, 2, 3, 2, "0000");
    }

    private static void diamond() {
        BorderTracer tracer = Pictures.drawAndTrace(Pictures.DIAMOND);
        sides("diamond", tracer, 0, 2, 0, "1101");
        sides("diamond", tracer, 1, 2, 0, "0010");
        sides("diamond", tracer, 0, 1, 1, "1001");
        sides("diamond", tracer, 1, 1, 1, "0110");
        sides("diamond", tracer, 0, 4, 2, "1110");
        sides("diamond", tracer, 1, 4, 2, "0001");
    }

    private static void outerCells() {
        Check.sentence("its side-side 4-neighbour (a pixel or an outer cell) lies in BG(k)");
        for (int size = 0; size < 256; size++) {
            int width = 1 + size % 16;
            int height = 1 + size / 16;
            BorderTracer tracer = Pictures.drawAndTrace(Situation.full(width, height));
            for (int y = 0; y < height; y++) {
                for (int x = 0; x < width; x++) {
                    String want = bit(y == 0) + bit(x == width - 1) + bit(y == height - 1) + bit(x == 0);
                    sides("full " + width + " x " + height, tracer, 0, x, y, want);
                }
            }
        }
        // The cell past the end of a row is an outer cell, not the first pixel of the next row.
        BorderTracer rows = Pictures.drawAndTrace("################", "................", "################");
        sides("rows", rows, 0, 15, 0, "1110");
        sides("rows", rows, 1, 0, 2, "1011");
        sides("rows", rows, 1, 15, 2, "1110");
    }

    private static void countsAreLengths() {
        Check.sentence("The number of (x, y, side) triples answering true for a valid k equals contourLength(k).");
        for (Situation situation : Situation.traced()) {
            edgesOf(situation.name, situation.make());
        }
        edgesOf("diamond", Pictures.drawAndTrace(Pictures.DIAMOND));
        Numbers numbers = new Numbers(13);
        for (int round = 0; round < 30; round++) {
            edgesOf("mixed " + round, Rasters.mixed(16, 16, numbers));
        }
    }

    private static void edgesOf(String name, BorderTracer tracer) {
        for (int k = 0; k < tracer.contourCount(); k++) {
            int count = 0;
            for (int triple = 0; triple < 20 * 20 * 8; triple++) {
                count += tracer.hasEdge(k, triple / 8 % 20 - 2, triple / 160 - 2, triple % 8 - 2) ? 1 : 0;
            }
            Check.due(name + ": edges of " + k, count, tracer.contourLength(k));
        }
    }

    private static void changesNothing() {
        Check.sentence("It changes nothing.");
        for (Situation situation : Situation.all()) {
            Unchanged unchanged = new Unchanged(situation);
            for (int k = -1; k <= situation.n(); k++) {
                asked(unchanged, k, 0, BorderTracer.SIDE_LEFT);
                asked(unchanged, k, situation.width(), BorderTracer.SIDE_LEFT);
                asked(unchanged, k, 0, 4);
            }
            unchanged.end("hasEdge");
        }
    }

    private static void asked(Unchanged unchanged, int k, int x, int side) {
        unchanged.by("hasEdge(" + k + ", " + x + ", 0, " + side + ")", tracer -> tracer.hasEdge(k, x, 0, side));
    }

    private static String bit(boolean edge) {
        return edge ? "1" : "0";
    }

    private static void sides(String name, BorderTracer tracer, int k, int x, int y, String want) {
        for (int side = 0; side < 4; side++) {
            String call = name + ": hasEdge(" + k + ", " + x + ", " + y + ", " + side + ")";
            Check.due(call, tracer.hasEdge(k, x, y, side), want.charAt(side) == '1');
        }
    }
}
