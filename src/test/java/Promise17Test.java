/** Promise 17: filledEqualsBitmap. */
public final class Promise17Test {
    public static void main(String[] args) {
        onePixelAtATime();
        filling();
        changesNothing();
        Check.finish();
    }

    /** Each pixel counts, the last of a row and of the raster too. */
    private static void onePixelAtATime() {
        for (int cell = 0; cell < 256; cell++) {
            BorderTracer tracer = new BorderTracer(16, 16);
            Check.due("fresh", tracer.filledEqualsBitmap(), true);
            tracer.setPixel(cell % 16, cell / 16, 1);
            Check.due("pixel set, not traced", tracer.filledEqualsBitmap(), false);
            tracer.trace();
            Check.due("pixel set, traced", tracer.filledEqualsBitmap(), false);
            tracer.toggleFill(0);
            Check.due("pixel filled", tracer.filledEqualsBitmap(), true);
            tracer.setPixel(cell % 16, cell / 16, 0);
            Check.due("pixel cleared, not traced", tracer.filledEqualsBitmap(), true);
        }
    }

    private static void filling() {
        BorderTracer tracer = Pictures.drawAndTrace("###", "#.#", "###");
        Check.due("nothing filled", tracer.filledEqualsBitmap(), false);
        tracer.toggleFill(0);
        Check.due("hole filled too", tracer.filledEqualsBitmap(), false);
        tracer.toggleFill(1);
        Check.due("all as the raster", tracer.filledEqualsBitmap(), true);
        tracer.toggleFill(0);
        Check.due("only the hole filled", tracer.filledEqualsBitmap(), false);
        tracer.fillAll();
        Check.due("after fillAll", tracer.filledEqualsBitmap(), true);
        tracer.trace();
        Check.due("traced again", tracer.filledEqualsBitmap(), false);
        tracer.setRow(3, -1);
        tracer.fillAll();
        Check.due("after a refused setRow", tracer.filledEqualsBitmap(), true);
        tracer.setRow(0, 7);
        Check.due("invalidated", tracer.filledEqualsBitmap(), false);
    }

    private static void changesNothing() {
        BorderTracer tracer = Pictures.drawAndTrace(Pictures.RING);
        tracer.toggleFill(0);
        String before = Pictures.state(tracer, 8, 8);
        tracer.filledEqualsBitmap();
        Check.due("it changes nothing", Pictures.state(tracer, 8, 8).equals(before), true);
    }
}
