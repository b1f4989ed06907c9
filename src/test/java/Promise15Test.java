/** Promise 15: fillAll. */
public final class Promise15Test {
    public static void main(String[] args) {
        refused();
        clearsFirst();
        answersTheNumberFilled();
        pixelsTracedAndContoursStay();
        equalsTheRasterForAllInts();
        zeroWithoutContours();
        Check.finish();
    }

    private static void refused() {
        Check.sentence("fillAll() is refused and answers REFUSED (-1) if TRACED is false; then nothing changes.");
        for (Situation situation : Situation.notTraced()) {
            Unchanged unchanged = new Unchanged(situation);
            unchanged.by("fillAll()", tracer -> Check.due(situation.name + ": fillAll()", tracer.fillAll(), -1));
            unchanged.by("fillAll()", tracer -> Check.due(situation.name + ": again", tracer.fillAll(), -1));
            unchanged.end("refused fillAll");
        }
    }

    private static void clearsFirst() {
        Check.sentence("every fill plane value becomes 0; then for k = 0, 1, ..., n-1 the step of toggleFill(k) is "
            + "done");
        for (Situation situation : Situation.traced()) {
            BorderTracer tracer = situation.make();
            for (int k = 0; k < situation.count; k++) {
                tracer.toggleFill(k);
                tracer.fillAll();
                String filled = Pictures.filled(tracer, situation.width(), situation.height());
                Check.due(situation.name + ": after toggling " + k, filled, Pictures.lines(situation.pixels));
            }
            tracer.fillAll();
            String again = Pictures.filled(tracer, situation.width(), situation.height());
            Check.due(situation.name + ": again", again, Pictures.lines(situation.pixels));
        }
    }

    private static void answersTheNumberFilled() {
        Check.sentence("it answers the number of pixels whose fill plane value is then 1");
        fills(1, "#");
        fills(16, "####", "####", "####", "####");
        fills(18, Pictures.RING);
        fills(8, Pictures.DIAMOND);
        fills(47, Pictures.NESTED);
        fills(256, Situation.full(16, 16));
        BorderTracer last = new BorderTracer(16, 16);
        last.setPixel(15, 15, 1);
        last.trace();
        Check.due("the last pixel alone", last.fillAll(), 1);
    }

    private static void fills(int foreground, String... picture) {
        BorderTracer tracer = Pictures.drawAndTrace(picture);
        Check.due("fillAll", tracer.fillAll(), foreground);
        Check.due("fillAll again", tracer.fillAll(), foreground);
        tracer.toggleFill(0);
        Check.due("fillAll after toggleFill", tracer.fillAll(), foreground);
    }

    private static void pixelsTracedAndContoursStay() {
        Check.sentence("Pixels, TRACED and contours do not change.");
        for (Situation situation : Situation.traced()) {
            BorderTracer tracer = situation.make();
            String contours = State.contours(tracer);
            tracer.fillAll();
            String pixels = Pictures.pixels(tracer, situation.width(), situation.height());
            Check.due(situation.name + ": pixels", pixels, Pictures.lines(situation.pixels));
            Check.due(situation.name + ": traced", tracer.contourCount(), situation.count);
            Check.due(situation.name + ": contours", State.contours(tracer), contours);
        }
    }

    private static void equalsTheRasterForAllInts() {
        Check.sentence("after a non-refused fillAll() the fill plane equals the raster exactly: getFilled(x,y) == "
            + "getPixel(x,y) for all ints x and y, filledEqualsBitmap() answers true");
        for (Situation situation : Situation.traced()) {
            BorderTracer tracer = situation.make();
            tracer.fillAll();
            Check.due(situation.name + ": equal", tracer.filledEqualsBitmap(), true);
            for (int[] point : Wrong.points(situation.width(), situation.height())) {
                int filled = tracer.getFilled(point[0], point[1]);
                String where = situation.name + ": " + point[0] + " " + point[1];
                Check.due(where, filled, tracer.getPixel(point[0], point[1]));
                Check.due(where, filled, 0);
            }
            for (int y = -1; y <= 17; y++) {
                for (int x = -1; x <= 17; x++) {
                    Check.due(situation.name + ": " + x + " " + y, tracer.getFilled(x, y), tracer.getPixel(x, y));
                }
            }
        }
    }

    private static void zeroWithoutContours() {
        Check.sentence("the answer equals the number of foreground pixels (0 when there are no contours)");
        for (int size = 0; size < 256; size++) {
            BorderTracer tracer = new BorderTracer(1 + size % 16, 1 + size / 16);
            tracer.trace();
            Check.due("empty", tracer.fillAll(), 0);
            Check.due("empty, equal", tracer.filledEqualsBitmap(), true);
            tracer.setRow(0, -1);
            tracer.trace();
            Check.due("one row", tracer.fillAll(), 1 + size % 16);
            tracer.setRow(0, 0);
            tracer.trace();
            Check.due("emptied", tracer.fillAll(), 0);
        }
    }
}
