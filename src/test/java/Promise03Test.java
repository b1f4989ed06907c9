/** Promise 3: setRow. */
public final class Promise03Test {
    public static void main(String[] args) {
        for (int width = 1; width <= 16; width++) {
            rowsOf(width);
        }
        invalidates();
        refused();
        Check.finish();
    }

    private static void rowsOf(int width) {
        int[] rows = {0, 1, 2, 0x5555, 0xaaaa, 0x8001, 0xffff, 0x10000, 0x7fff0000, -1, Integer.MIN_VALUE, -32768,
            Integer.MAX_VALUE};
        BorderTracer tracer = new BorderTracer(width, 3);
        tracer.setRow(0, 0x3333);
        tracer.setRow(2, 0xcccc);
        for (int bits : rows) {
            Check.due("setRow", tracer.setRow(1, bits), true);
            for (int x = 0; x < 20; x++) {
                boolean in = x < width;
                String pixel = "width " + width + " bits " + bits + " x " + x;
                Check.due(pixel, tracer.getPixel(x, 1), in && (bits & (1 << x)) != 0 ? 1 : 0);
                Check.due(pixel + " above", tracer.getPixel(x, 0), in && x % 4 < 2 ? 1 : 0);
                Check.due(pixel + " below", tracer.getPixel(x, 2), in && x % 4 > 1 ? 1 : 0);
            }
        }
        // Ignored bits must not come back as pixels that no one can see.
        tracer.setRow(0, ~0 << width);
        tracer.setRow(1, ~0 << width);
        tracer.setRow(2, ~0 << width);
        Check.due("only ignored bits", tracer.trace(), 0);
        Check.due("only ignored bits are equal", tracer.filledEqualsBitmap(), true);
    }

    private static void invalidates() {
        int[] rows = {0x3e, 0};
        for (int bits : rows) {
            BorderTracer tracer = Pictures.drawAndTrace(Pictures.RING);
            tracer.fillAll();
            // Row 1 already is 0x3e, so for those bits nothing but the state changes.
            Check.due("setRow", tracer.setRow(1, bits), true);
            Check.due("contourCount", tracer.contourCount(), BorderTracer.NOT_TRACED);
            Check.due("contourKind", tracer.contourKind(0), BorderTracer.KIND_NONE);
            Check.due("contourOf", tracer.contourOf(3, 3), BorderTracer.NO_CONTOUR);
            Check.due("fillAll", tracer.fillAll(), BorderTracer.REFUSED);
            Check.due("fill plane empty", Pictures.filled(tracer, 8, 8).contains("#"), false);
        }
    }

    private static void refused() {
        BorderTracer tracer = Pictures.drawAndTrace(Pictures.RING);
        tracer.toggleFill(2);
        String before = Pictures.state(tracer, 8, 8);
        for (int wrong : Pictures.NOT_A_COORDINATE) {
            Check.due("setRow " + wrong, tracer.setRow(wrong, -1), false);
        }
        for (int wrong = 8; wrong < 16; wrong++) {
            Check.due("setRow " + wrong, tracer.setRow(wrong, -1), false);
        }
        Check.due("refused calls change nothing", Pictures.state(tracer, 8, 8).equals(before), true);
    }
}
