/** Promise 9: contourStart. */
public final class Promise09Test {
    public static void main(String[] args) {
        due(Pictures.RING, 17, 33, 51);
        due(Pictures.DIAMOND, 2, 17);
        due(Pictures.NESTED, 0, 13, 16, 34, 50, 55);
        due(new String[] {"#"}, 0);
        due(new String[] {"..."});
        due(new String[] {"#####", "#.#.#", "#####"}, 0, 16, 18);
        // The first pixel is the topmost one, though others lie further left.
        due(new String[] {"...#", "..#.", ".#..", "#..."}, 3);
        // The hole's first pixel is its topmost one, though its left part lies lower.
        due(new String[] {"#####", "###.#", "#...#", "#####"}, 0, 18);
        lastPixel();
        Check.finish();
    }

    private static void due(String[] picture, int... want) {
        ContourAnswers.due("contourStart", BorderTracer::contourStart, -1, picture, want);
    }

    private static void lastPixel() {
        BorderTracer tracer = new BorderTracer(16, 16);
        tracer.setPixel(15, 15, 1);
        tracer.trace();
        Check.due("contourStart of the last pixel", tracer.contourStart(0), 255);
    }
}
