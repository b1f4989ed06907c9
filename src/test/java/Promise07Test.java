/** Promise 7: contourKind. */
public final class Promise07Test {
    public static void main(String[] args) {
        due(Pictures.RING, 1, 2, 1);
        due(Pictures.DIAMOND, 1, 2);
        due(Pictures.NESTED, 1, 1, 2, 1, 2, 1);
        due(new String[] {"#"}, 1);
        due(new String[] {"..."});
        due(new String[] {"#####", "#.#.#", "#####"}, 1, 2, 2);
        Check.finish();
    }

    private static void due(String[] picture, int... want) {
        ContourAnswers.due("contourKind", BorderTracer::contourKind, BorderTracer.KIND_NONE, picture, want);
    }
}
