/** Promise 11: contourArea. */
public final class Promise11Test {
    public static void main(String[] args) {
        due(Pictures.RING, 26, -9, 1);
        due(Pictures.DIAMOND, 13, -5);
        due(Pictures.NESTED, 77, 3, -45, 9, -1, 4);
        due(new String[] {"#"}, 1);
        due(new String[] {"..."});
        due(new String[] {"#####", "#.#.#", "#####"}, 15, -1, -1);
        due(new String[] {"###", "#.#", "#.#"}, 7);
        areasOfChildren();
        Check.finish();
    }

    private static void due(String[] picture, int... want) {
        ContourAnswers.due("contourArea", BorderTracer::contourArea, 0, picture, want);
    }

    private static void areasOfChildren() {
        BorderTracer tracer = Pictures.drawAndTrace(Pictures.NESTED);
        for (int k = 0; k < tracer.contourCount(); k++) {
            int sum = tracer.contourArea(k);
            for (int j = 0; j < tracer.contourCount(); j++) {
                sum += tracer.contourParent(j) == k ? tracer.contourArea(j) : 0;
            }
            int region = regionSize(tracer, k);
            boolean outer = tracer.contourKind(k) == BorderTracer.KIND_OUTER;
            Check.due("area with children of " + k, sum, outer ? region : -region);
        }
    }

    private static int regionSize(BorderTracer tracer, int k) {
        int size = 0;
        for (int cell = 0; cell < 256; cell++) {
            size += tracer.contourOf(cell % 16, cell / 16) == k ? 1 : 0;
        }
        return size;
    }
}
