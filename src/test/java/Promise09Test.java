/** Promise 9: contourStart. */
public final class Promise09Test {
    private static final ContourAnswers STARTS = new ContourAnswers("contourStart", BorderTracer::contourStart, -1);

    public static void main(String[] args) {
        Check.sentence("contourStart(k) answers -1 if k is not valid: TRACED false");
        STARTS.whileNotTraced();
        Check.sentence("contourStart(k) answers -1 if k is not valid: k negative");
        STARTS.forNegativeNumbers();
        Check.sentence("contourStart(k) answers -1 if k is not valid: k >= n");
        STARTS.forNumbersTooLarge();
        Check.sentence("It changes nothing.");
        STARTS.changesNothing();
        rasterIndex();
        outerContours();
        holeContours();
        strictlyIncrease();
        Check.finish();
    }

    /** The smallest answer is 0, the largest 255. */
    private static void rasterIndex() {
        Check.sentence("else the raster index y*16+x of contour k's key pixel");
        for (int size = 1; size <= 16; size++) {
            for (int cell = 0; cell < size * size; cell++) {
                BorderTracer tracer = new BorderTracer(size, size);
                tracer.setPixel(cell % size, cell / size, 1);
                tracer.trace();
                Check.due("the only pixel", tracer.contourStart(0), cell / size * 16 + cell % size);
            }
        }
    }

    private static void outerContours() {
        Check.sentence("For an outer contour this is the first pixel of its foreground component");
        STARTS.due(new String[] {"#"}, 0);
        STARTS.due(new String[] {"..."});
        STARTS.due(new String[] {"..#", "..#"}, 2);
        // The first pixel is the topmost one, though others lie further left.
        STARTS.due(new String[] {"...#", "..#.", ".#..", "#..."}, 3);
        // Of two pixels of one row it is the left one, though the right one belongs to the same component.
        STARTS.due(new String[] {".#.#", ".###"}, 1);
    }

    private static void holeContours() {
        Check.sentence("for a hole contour it is the foreground pixel just left of the hole's first pixel");
        STARTS.due(Pictures.RING, 17, 33, 51);
        STARTS.due(Pictures.DIAMOND, 2, 17);
        STARTS.due(Pictures.NESTED, 0, 13, 16, 34, 50, 55);
        STARTS.due(new String[] {"#####", "#.#.#", "#####"}, 0, 16, 18);
        // The hole's first pixel is its topmost one, though its left part lies lower.
        STARTS.due(new String[] {"#####", "###.#", "#...#", "#####"}, 0, 18);
    }

    private static void strictlyIncrease() {
        Check.sentence("Over k = 0..n-1 these answers strictly increase.");
        Numbers numbers = new Numbers(9);
        for (int round = 0; round < 500; round++) {
            BorderTracer tracer = Rasters.mixed(1 + numbers.below(16), 1 + numbers.below(16), numbers);
            for (int k = 0; k < tracer.contourCount(); k++) {
                boolean later = tracer.contourStart(k) > tracer.contourStart(k - 1);
                Check.due("round " + round + ": " + k + " starts later", later, true);
            }
        }
    }
}
