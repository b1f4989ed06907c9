/** Promise 11: contourArea. */
public final class Promise11Test {
    private static final ContourAnswers AREAS = new ContourAnswers("contourArea", BorderTracer::contourArea, 0);

    public static void main(String[] args) {
        Check.sentence("contourArea(k) answers 0 if k is not valid: TRACED false");
        AREAS.whileNotTraced();
        Check.sentence("contourArea(k) answers 0 if k is not valid: k negative");
        AREAS.forNegativeNumbers();
        Check.sentence("contourArea(k) answers 0 if k is not valid: k >= n");
        AREAS.forNumbersTooLarge();
        Check.sentence("It changes nothing.");
        AREAS.changesNothing();
        neverZero();
        positive();
        negative();
        smallestAndLargest();
        areasOfChildren();
        Check.finish();
    }

    private static void neverZero() {
        Check.sentence("else AREA(k), which is never 0");
        Numbers numbers = new Numbers(11);
        for (int round = 0; round < 300; round++) {
            BorderTracer tracer = Rasters.mixed(16, 16, numbers);
            for (int k = 0; k < tracer.contourCount(); k++) {
                Check.due("area of " + k + " is 0", tracer.contourArea(k) == 0, false);
            }
        }
    }

    private static void positive() {
        Check.sentence("positive for an outer contour (the pixel count of INTERIOR(k))");
        AREAS.due(new String[] {"#"}, 1);
        AREAS.due(new String[] {"..."});
        AREAS.due(new String[] {"#.##"}, 1, 2);
        AREAS.due(new String[] {"###", "#.#", "#.#"}, 7);
    }

    private static void negative() {
        Check.sentence("negative for a hole contour (that count negated)");
        AREAS.due(Pictures.RING, 26, -9, 1);
        AREAS.due(Pictures.DIAMOND, 13, -5);
        AREAS.due(Pictures.NESTED, 77, 3, -45, 9, -1, 4);
        AREAS.due(new String[] {"#####", "#.#.#", "#####"}, 15, -1, -1);
    }

    private static void smallestAndLargest() {
        Check.sentence("AREA(k): the smallest and the largest");
        AREAS.due(Situation.full(16, 16), 256);
        String[] frame = Situation.full(16, 16);
        for (int y = 1; y < 15; y++) {
            frame[y] = "#..............#";
        }
        AREAS.due(frame, 256, -196);
        AREAS.due(new String[] {"###", "#.#", "###"}, 9, -1);
        // Rings in rings: every contour has all that lies further in.
        BorderTracer rings = new BorderTracer(16, 16);
        for (int cell = 0; cell < 256; cell++) {
            int x = cell % 16;
            int y = cell / 16;
            int depth = Math.min(Math.min(x, y), Math.min(15 - x, 15 - y));
            rings.setPixel(x, y, 1 - depth % 2);
        }
        Check.due("rings", rings.trace(), 8);
        int[] areas = {256, -196, 144, -100, 64, -36, 16, -4};
        for (int k = 0; k < 8; k++) {
            Check.due("ring " + k, rings.contourArea(k), areas[k]);
        }
    }

    private static void areasOfChildren() {
        Check.sentence("For every valid k, AREA(k) plus the sum of AREA(j) over the children j of k equals the pixel "
            + "count of R(k) for an outer contour and its negation for a hole contour.");
        childrenOf(Pictures.drawAndTrace(Pictures.NESTED));
        Numbers numbers = new Numbers(12);
        for (int round = 0; round < 100; round++) {
            childrenOf(Rasters.mixed(16, 16, numbers));
        }
    }

    private static void childrenOf(BorderTracer tracer) {
        for (int k = 0; k < tracer.contourCount(); k++) {
            int sum = tracer.contourArea(k);
            for (int j = 0; j < tracer.contourCount(); j++) {
                sum += tracer.contourParent(j) == k ? tracer.contourArea(j) : 0;
            }
            int region = regionSize(tracer, k);
            boolean outer = tracer.contourKind(k) == BorderTracer.KIND_OUTER;
            Check.due("area with children of " + k, sum, outer ? region : -region);
        }
    }

    private static int regionSize(BorderTracer tracer, int k) {
        int size = 0;
        for (int cell = 0; cell < 256; cell++) {
            size += tracer.contourOf(cell % 16, cell / 16) == k ? 1 : 0;
        }
        return size;
    }
}
