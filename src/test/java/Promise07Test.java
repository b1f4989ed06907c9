/** Promise 7: contourKind. */
public final class Promise07Test {
    private static final ContourAnswers KINDS =
        new ContourAnswers("contourKind", BorderTracer::contourKind, BorderTracer.KIND_NONE);

    public static void main(String[] args) {
        Check.sentence("answers KIND_NONE if k is not valid (TRACED false)");
        KINDS.whileNotTraced();
        Check.sentence("answers KIND_NONE if k is not valid (k negative)");
        KINDS.forNegativeNumbers();
        Check.sentence("answers KIND_NONE if k is not valid (k >= n)");
        KINDS.forNumbersTooLarge();
        Check.sentence("It changes nothing.");
        KINDS.changesNothing();
        Check.sentence("else KIND_OUTER for an outer contour and KIND_HOLE for a hole contour");
        KINDS.due(Pictures.RING, 1, 2, 1);
        KINDS.due(Pictures.DIAMOND, 1, 2);
        KINDS.due(Pictures.NESTED, 1, 1, 2, 1, 2, 1);
        KINDS.due(new String[] {"#"}, 1);
        KINDS.due(new String[] {"..."});
        KINDS.due(new String[] {"#####", "#.#.#", "#####"}, 1, 2, 2);
        Check.finish();
    }
}
