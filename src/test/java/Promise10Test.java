/** Promise 10: contourLength. */
public final class Promise10Test {
    public static void main(String[] args) {
        due(Pictures.RING, 24, 12, 4);
        due(Pictures.DIAMOND, 20, 12);
        due(Pictures.NESTED, 36, 8, 28, 12, 4, 8);
        due(new String[] {"#"}, 4);
        due(new String[] {"..."});
        due(new String[] {"#####", "#.#.#", "#####"}, 16, 4, 4);
        due(new String[] {"#..", ".#.", "..#"}, 12);
        due(new String[] {"###", "#.#", "#.#"}, 16);
        Check.finish();
    }

    private static void due(String[] picture, int... want) {
        ContourAnswers.due("contourLength", BorderTracer::contourLength, 0, picture, want);
    }
}
