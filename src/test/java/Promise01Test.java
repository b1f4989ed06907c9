/** Promise 1: Construction. */
public final class Promise01Test {
    public static void main(String[] args) {
        size(1, 1, 1, 1);
        size(16, 16, 16, 16);
        size(7, 3, 7, 3);
        size(3, 7, 3, 7);
        size(2, 15, 2, 15);
        size(0, 17, 1, 16);
        size(17, 0, 16, 1);
        size(-1, 5, 1, 5);
        size(5, -1, 5, 1);
        size(Integer.MIN_VALUE, Integer.MAX_VALUE, 1, 16);
        size(Integer.MAX_VALUE, Integer.MIN_VALUE, 16, 1);
        size(65537, 256, 16, 16);
        freshObject();
        objectsAreApart();
        Check.finish();
    }

    private static void size(int width, int height, int dueWidth, int dueHeight) {
        String made = "new BorderTracer(" + width + ", " + height + "): ";
        BorderTracer tracer = new BorderTracer(width, height);
        Check.due(made + "last pixel", tracer.setPixel(dueWidth - 1, dueHeight - 1, 1), true);
        Check.due(made + "past the right", tracer.setPixel(dueWidth, 0, 1), false);
        Check.due(made + "past the bottom", tracer.setPixel(0, dueHeight, 1), false);
        Check.due(made + "last row", tracer.setRow(dueHeight - 1, -1), true);
        Check.due(made + "past the last row", tracer.setRow(dueHeight, -1), false);
        for (int y = 0; y < dueHeight; y++) {
            tracer.setRow(y, -1);
        }
        tracer.trace();
        Check.due(made + "size afterwards", tracer.contourArea(0), dueWidth * dueHeight);
        Check.due(made + "border afterwards", tracer.contourLength(0), 2 * (dueWidth + dueHeight));
    }

    private static void freshObject() {
        BorderTracer tracer = new BorderTracer(16, 16);
        for (int y = 0; y < 16; y++) {
            for (int x = 0; x < 16; x++) {
                Check.due("fresh getPixel", tracer.getPixel(x, y), 0);
                Check.due("fresh getFilled", tracer.getFilled(x, y), 0);
                Check.due("fresh contourOf", tracer.contourOf(x, y), BorderTracer.NO_CONTOUR);
            }
        }
        Check.due("fresh contourCount", tracer.contourCount(), BorderTracer.NOT_TRACED);
        Check.due("fresh filledEqualsBitmap", tracer.filledEqualsBitmap(), true);
        Check.due("fresh contourKind", tracer.contourKind(0), BorderTracer.KIND_NONE);
        Check.due("fresh toggleFill", tracer.toggleFill(0), false);
        Check.due("fresh fillAll", tracer.fillAll(), BorderTracer.REFUSED);
    }

    private static void objectsAreApart() {
        BorderTracer first = new BorderTracer(4, 4);
        BorderTracer second = new BorderTracer(4, 4);
        first.setPixel(1, 1, 1);
        first.trace();
        Check.due("the other object's pixel", second.getPixel(1, 1), 0);
        Check.due("the other object's contours", second.contourCount(), BorderTracer.NOT_TRACED);
    }
}
