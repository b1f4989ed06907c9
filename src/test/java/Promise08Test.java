/** Promise 8: contourParent. */
public final class Promise08Test {
    private static final ContourAnswers PARENTS =
        new ContourAnswers("contourParent", BorderTracer::contourParent, BorderTracer.INVALID);

    public static void main(String[] args) {
        Check.sentence("contourParent(k) answers INVALID (-2) if k is not valid: TRACED false");
        PARENTS.whileNotTraced();
        Check.sentence("contourParent(k) answers INVALID (-2) if k is not valid: k negative");
        PARENTS.forNegativeNumbers();
        Check.sentence("contourParent(k) answers INVALID (-2) if k is not valid: k >= n");
        PARENTS.forNumbersTooLarge();
        Check.sentence("It changes nothing.");
        PARENTS.changesNothing();
        noParent();
        parent();
        kindsAlternate();
        Check.finish();
    }

    private static void noParent() {
        Check.sentence("NO_PARENT (-1) if contour k has no parent (exactly the outer contours whose BG(k) is OUTSIDE)");
        PARENTS.due(new String[] {"#"}, -1);
        PARENTS.due(new String[] {"..."});
        PARENTS.due(Situation.full(16, 16), -1);
        PARENTS.due(new String[] {"#.#.#", "#.#.#"}, -1, -1, -1);
        // The island lies in a bay that is open to the rim.
        PARENTS.due(new String[] {".####", "....#", "#.#.#", "#...#", "#####"}, -1, -1);
        // The same bay closed by a corner step: now the island lies in a hole.
        PARENTS.due(new String[] {".####", "#...#", "#.#.#", "#...#", "#####"}, -1, 0, 1);
    }

    private static void parent() {
        Check.sentence("else the number of its parent");
        PARENTS.due(Pictures.RING, -1, 0, 1);
        PARENTS.due(Pictures.DIAMOND, -1, 0);
        PARENTS.due(Pictures.NESTED, -1, -1, 0, 2, 3, 2);
        PARENTS.due(new String[] {"#####", "#.#.#", "#####"}, -1, 0, 0);
    }

    private static void kindsAlternate() {
        Check.sentence("The parent of an outer contour, when it exists, is a hole contour; the parent of a hole "
            + "contour is always the outer contour whose region is FG(k).");
        Numbers numbers = new Numbers(8);
        for (int round = 0; round < 300; round++) {
            BorderTracer tracer = Rasters.mixed(16, 16, numbers);
            for (int k = 0; k < tracer.contourCount(); k++) {
                alternates(tracer, k);
            }
        }
    }

    private static void alternates(BorderTracer tracer, int k) {
        int parent = tracer.contourParent(k);
        if (tracer.contourKind(k) == BorderTracer.KIND_HOLE) {
            int start = tracer.contourStart(k);
            Check.due("parent of hole " + k, parent, tracer.contourOf(start % 16, start / 16));
            Check.due("kind of the parent of " + k, tracer.contourKind(parent), BorderTracer.KIND_OUTER);
        } else if (parent != BorderTracer.NO_PARENT) {
            Check.due("kind of the parent of " + k, tracer.contourKind(parent), BorderTracer.KIND_HOLE);
        }
    }
}
