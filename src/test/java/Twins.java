/** A tracer and the model of the document, given the same calls and asked the same questions. */
final class Twins {
    private static final int[] FAR = {Integer.MIN_VALUE, -2, -1, 256, Integer.MAX_VALUE};

    private final BorderTracer tracer;
    private final Model model;
    private final String name;

    Twins(String name, int width, int height) {
        this.name = name;
        tracer = new BorderTracer(width, height);
        model = new Model(width, height);
    }

    int width() {
        return model.width();
    }

    int height() {
        return model.height();
    }

    void setPixel(int x, int y, int value) {
        due("setPixel " + x + " " + y, tracer.setPixel(x, y, value), model.setPixel(x, y, value));
    }

    void setRow(int y, int bits) {
        due("setRow " + y, tracer.setRow(y, bits), model.setRow(y, bits));
    }

    void trace() {
        due("trace", tracer.trace(), model.trace());
    }

    void toggleFill(int k) {
        due("toggleFill " + k, tracer.toggleFill(k), model.toggleFill(k));
    }

    void fillAll() {
        due("fillAll", tracer.fillAll(), model.fillAll());
    }

    int contourCount() {
        return model.contourCount();
    }

    void compareAll() {
        comparePlanes();
        int n = Math.max(0, model.contourCount());
        for (int k = -1; k <= n; k++) {
            compareContour(k);
        }
        for (int k : FAR) {
            compareContour(k);
        }
    }

    void comparePlanes() {
        due("contourCount", tracer.contourCount(), model.contourCount());
        due("filledEqualsBitmap", tracer.filledEqualsBitmap(), model.filledEqualsBitmap());
        for (int y = -1; y <= 16; y++) {
            for (int x = -1; x <= 16; x++) {
                due("getPixel", x, y, tracer.getPixel(x, y), model.getPixel(x, y));
                due("getFilled", x, y, tracer.getFilled(x, y), model.getFilled(x, y));
                due("contourOf", x, y, tracer.contourOf(x, y), model.contourOf(x, y));
            }
        }
    }

    private void compareContour(int k) {
        due("contourKind", k, tracer.contourKind(k), model.contourKind(k));
        due("contourParent", k, tracer.contourParent(k), model.contourParent(k));
        due("contourStart", k, tracer.contourStart(k), model.contourStart(k));
        due("contourLength", k, tracer.contourLength(k), model.contourLength(k));
        due("contourArea", k, tracer.contourArea(k), model.contourArea(k));
        for (int y = -1; y <= height(); y++) {
            for (int x = -1; x <= width(); x++) {
                for (int side = -1; side <= 4; side++) {
                    compareEdge(k, x, y, side);
                }
            }
        }
    }

    private void compareEdge(int k, int x, int y, int side) {
        boolean got = tracer.hasEdge(k, x, y, side);
        boolean want = model.hasEdge(k, x, y, side);
        if (got != want) {
            due("hasEdge " + k + " " + x + " " + y + " " + side, got, want);
        }
    }

    private void due(String call, int a, int got, int want) {
        if (got != want) {
            due(call + " " + a, got, want);
        }
    }

    private void due(String call, int a, int b, int got, int want) {
        if (got != want) {
            due(call + " " + a + " " + b, got, want);
        }
    }

    private void due(String call, int got, int want) {
        Check.due(name + ": " + call, got, want);
    }

    private void due(String call, boolean got, boolean want) {
        Check.due(name + ": " + call, got, want);
    }
}
