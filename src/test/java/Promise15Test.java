/** Promise 15: fillAll. */
public final class Promise15Test {
    public static void main(String[] args) {
        refused();
        fills(0, "...", "...");
        fills(1, "#");
        fills(16, "####", "####", "####", "####");
        fills(18, Pictures.RING);
        fills(8, Pictures.DIAMOND);
        fills(47, Pictures.NESTED);
        Check.finish();
    }

    private static void refused() {
        BorderTracer tracer = Pictures.draw(Pictures.RING);
        String before = Pictures.state(tracer, 8, 8);
        Check.due("not traced", tracer.fillAll(), BorderTracer.REFUSED);
        Check.due("a refused call changes nothing", Pictures.state(tracer, 8, 8).equals(before), true);
        tracer.trace();
        tracer.setPixel(3, 3, 0);
        Check.due("invalidated", tracer.fillAll(), BorderTracer.REFUSED);
        Check.due("fill plane empty", Pictures.filled(tracer, 8, 8).contains("#"), false);
    }

    private static void fills(int foreground, String... picture) {
        BorderTracer tracer = Pictures.drawAndTrace(picture);
        equalsRaster(tracer, foreground, picture);
        equalsRaster(tracer, foreground, picture);
        for (int k = 0; k < tracer.contourCount(); k++) {
            tracer.toggleFill(k);
            equalsRaster(tracer, foreground, picture);
        }
        String before = Pictures.state(tracer, picture[0].length(), picture.length);
        tracer.fillAll();
        String after = Pictures.state(tracer, picture[0].length(), picture.length);
        Check.due("pixels, contours and TRACED stay", after.equals(before), true);
    }

    private static void equalsRaster(BorderTracer tracer, int foreground, String... picture) {
        Check.due("fillAll", tracer.fillAll(), foreground);
        Check.due("filledEqualsBitmap", tracer.filledEqualsBitmap(), true);
        for (int y = 0; y < picture.length; y++) {
            for (int x = 0; x < picture[y].length(); x++) {
                int want = picture[y].charAt(x) == '#' ? 1 : 0;
                Check.due("getFilled " + x + " " + y, tracer.getFilled(x, y), want);
                Check.due("getPixel " + x + " " + y, tracer.getPixel(x, y), want);
            }
        }
    }
}
