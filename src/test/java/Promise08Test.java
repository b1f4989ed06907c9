/** Promise 8: contourParent. */
public final class Promise08Test {
    public static void main(String[] args) {
        due(Pictures.RING, -1, 0, 1);
        due(Pictures.DIAMOND, -1, 0);
        due(Pictures.NESTED, -1, -1, 0, 2, 3, 2);
        due(new String[] {"#"}, -1);
        due(new String[] {"..."});
        due(new String[] {"#####", "#.#.#", "#####"}, -1, 0, 0);
        due(new String[] {"#.#.#", "#.#.#"}, -1, -1, -1);
        // The island lies in a bay that a corner step closes, its hole is the parent.
        due(new String[] {".####", "#...#", "#.#.#", "#...#", "#####"}, -1, 0, 1);
        // The same bay, open to the rim: the island has no parent.
        due(new String[] {".####", "....#", "#.#.#", "#...#", "#####"}, -1, -1);
        Check.finish();
    }

    private static void due(String[] picture, int... want) {
        ContourAnswers.due("contourParent", BorderTracer::contourParent, BorderTracer.INVALID, picture, want);
    }
}
