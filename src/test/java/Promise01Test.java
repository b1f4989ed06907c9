/** Promise 1: Construction. */
public final class Promise01Test {
    private static final int[] TOO_SMALL = {0, -1, -2, -15, -16, -17, -255, -256, -65535, Integer.MIN_VALUE + 1,
        Integer.MIN_VALUE};
    private static final int[] TOO_LARGE = {17, 18, 31, 32, 33, 255, 256, 257, 65537, Integer.MAX_VALUE - 1,
        Integer.MAX_VALUE};

    public static void main(String[] args) {
        neverFails();
        widthTooSmall();
        widthTooLarge();
        widthWithin();
        heightTooSmall();
        heightTooLarge();
        heightWithin();
        sizeNeverChanges();
        atTheStart();
        firstAnswers();
        objectsAreApart();
        Check.finish();
    }

    private static void neverFails() {
        Check.sentence("BorderTracer(int width, int height) never fails.");
        for (int width : Wrong.EXTREMES) {
            for (int height : Wrong.EXTREMES) {
                BorderTracer tracer = new BorderTracer(width, height);
                Check.due("trace of " + width + " x " + height, tracer.trace(), 0);
            }
        }
    }

    private static void widthTooSmall() {
        Check.sentence("any width below 1 (including Integer.MIN_VALUE) gives W = 1");
        for (int width : TOO_SMALL) {
            hasSize("width " + width, new BorderTracer(width, 5), 1, 5);
            hasSize("width " + width, new BorderTracer(width, 16), 1, 16);
        }
    }

    private static void widthTooLarge() {
        Check.sentence("any width above 16 (including Integer.MAX_VALUE) gives W = 16");
        for (int width : TOO_LARGE) {
            hasSize("width " + width, new BorderTracer(width, 5), 16, 5);
            hasSize("width " + width, new BorderTracer(width, 1), 16, 1);
        }
    }

    private static void widthWithin() {
        Check.sentence("otherwise W = width");
        for (int width = 1; width <= 16; width++) {
            hasSize("width " + width, new BorderTracer(width, 7), width, 7);
        }
    }

    private static void heightTooSmall() {
        Check.sentence("H is height clamped the same way: below 1");
        for (int height : TOO_SMALL) {
            hasSize("height " + height, new BorderTracer(5, height), 5, 1);
            hasSize("height " + height, new BorderTracer(Integer.MAX_VALUE, height), 16, 1);
            hasSize("both " + height, new BorderTracer(height, height), 1, 1);
        }
    }

    private static void heightTooLarge() {
        Check.sentence("H is height clamped the same way: above 16");
        for (int height : TOO_LARGE) {
            hasSize("height " + height, new BorderTracer(5, height), 5, 16);
            hasSize("height " + height, new BorderTracer(Integer.MIN_VALUE, height), 1, 16);
            hasSize("both " + height, new BorderTracer(height, height), 16, 16);
        }
    }

    private static void heightWithin() {
        Check.sentence("H is height clamped the same way: within");
        for (int height = 1; height <= 16; height++) {
            hasSize("height " + height, new BorderTracer(7, height), 7, height);
            hasSize("both " + height, new BorderTracer(height, height), height, height);
        }
    }

    private static void sizeNeverChanges() {
        Check.sentence("W and H never change afterwards.");
        for (Situation situation : Situation.all()) {
            hasSize(situation.name, situation.make(), situation.width(), situation.height());
        }
        BorderTracer tracer = new BorderTracer(3, 2);
        for (int round = 0; round < 3; round++) {
            hasSize("round " + round, tracer, 3, 2);
            tracer.toggleFill(0);
            tracer.fillAll();
        }
    }

    private static void atTheStart() {
        Check.sentence("At the start all pixels are 0, the fill plane is all 0, TRACED is false and there are no "
            + "contours");
        for (int size = 0; size < 256; size++) {
            BorderTracer tracer = new BorderTracer(1 + size % 16, 1 + size / 16);
            String made = "new object " + size;
            Check.due(made + " pixels", Pictures.pixels(tracer, 16, 16).contains("#"), false);
            Check.due(made + " fill plane", Pictures.filled(tracer, 16, 16).contains("#"), false);
            Check.due(made + " kind", tracer.contourKind(0), BorderTracer.KIND_NONE);
            Check.due(made + " contour of a pixel", tracer.contourOf(0, 0), BorderTracer.NO_CONTOUR);
        }
        Invalidated.look("new object", new BorderTracer(16, 16));
        Invalidated.look("new object too small", new BorderTracer(0, 0));
    }

    private static void firstAnswers() {
        Check.sentence("so contourCount() answers NOT_TRACED and filledEqualsBitmap() answers true");
        for (int size = 0; size < 256; size++) {
            BorderTracer tracer = new BorderTracer(1 + size % 16, 1 + size / 16);
            Check.due("contourCount of a new object", tracer.contourCount(), BorderTracer.NOT_TRACED);
            Check.due("filledEqualsBitmap of a new object", tracer.filledEqualsBitmap(), true);
        }
    }

    private static void objectsAreApart() {
        Check.sentence("At the start all pixels are 0: also when there are other objects");
        BorderTracer first = new BorderTracer(4, 4);
        first.setPixel(1, 1, 1);
        first.trace();
        BorderTracer second = new BorderTracer(4, 4);
        Check.due("the other object's pixel", second.getPixel(1, 1), 0);
        Check.due("the other object's contours", second.contourCount(), BorderTracer.NOT_TRACED);
        second.setPixel(0, 0, 1);
        Check.due("the first object's contours", first.contourCount(), 1);
        Check.due("the first object's pixel", first.getPixel(0, 0), 0);
    }

    /** Leaves the object full and traced. */
    private static void hasSize(String made, BorderTracer tracer, int width, int height) {
        for (int y = -1; y <= 17; y++) {
            boolean row = y >= 0 && y < height;
            Check.due(made + ": setRow " + y, tracer.setRow(y, 0), row);
            for (int x = -1; x <= 17; x++) {
                boolean pixel = row && x >= 0 && x < width;
                Check.due(made + ": setPixel " + x + " " + y, tracer.setPixel(x, y, 1), pixel);
                Check.due(made + ": getPixel " + x + " " + y, tracer.getPixel(x, y), pixel ? 1 : 0);
            }
        }
        Check.due(made + ": trace", tracer.trace(), 1);
        Check.due(made + ": area", tracer.contourArea(0), width * height);
        Check.due(made + ": border", tracer.contourLength(0), 2 * (width + height));
    }
}
