/** Rasters in large numbers, traced: every one of 4 x 4 pixels, and mixed ones of any size. */
final class Rasters {
    /** As many as there are of 4 x 4 pixels. */
    static final int FOUR_BY_FOUR = 1 << 16;

    private Rasters() {
    }

    static BorderTracer fourByFour(int bits) {
        BorderTracer tracer = new BorderTracer(4, 4);
        for (int y = 0; y < 4; y++) {
            tracer.setRow(y, bits >>> (4 * y));
        }
        tracer.trace();
        return tracer;
    }

    /** About three quarters are foreground, so that there are many holes, and islands in them. */
    static BorderTracer mixed(int width, int height, Numbers numbers) {
        BorderTracer tracer = new BorderTracer(width, height);
        for (int y = 0; y < height; y++) {
            tracer.setRow(y, numbers.next() | numbers.next());
        }
        tracer.trace();
        return tracer;
    }
}
