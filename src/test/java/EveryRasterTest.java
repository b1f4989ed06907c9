/** Promises 5 to 17 against the model: every raster of a few small sizes, and many larger ones. */
public final class EveryRasterTest {
    public static void main(String[] args) {
        everyRaster(1, 1);
        everyRaster(1, 5);
        everyRaster(5, 1);
        everyRaster(3, 3);
        everyRaster(4, 3);
        everyRaster(3, 4);
        mixedRasters();
        ringsInRings();
        chequers();
        Check.finish();
    }

    private static void everyRaster(int width, int height) {
        for (int bits = 0; bits < 1 << (width * height); bits++) {
            Twins twins = new Twins(width + "x" + height + " raster " + bits, width, height);
            for (int y = 0; y < height; y++) {
                twins.setRow(y, bits >>> (y * width));
            }
            traceAndFill(twins);
        }
    }

    private static void mixedRasters() {
        Numbers numbers = new Numbers(1);
        for (int round = 0; round < 400; round++) {
            Twins twins = new Twins("mixed " + round, 5 + numbers.below(12), 5 + numbers.below(12));
            int density = 1 + numbers.below(9);
            for (int y = 0; y < twins.height(); y++) {
                for (int x = 0; x < twins.width(); x++) {
                    twins.setPixel(x, y, numbers.below(10) < density ? 1 : 0);
                }
            }
            traceAndFill(twins);
        }
    }

    private static void ringsInRings() {
        for (int shift = 0; shift < 2; shift++) {
            Twins twins = new Twins("rings " + shift, 16, 16);
            for (int y = 0; y < 16; y++) {
                for (int x = 0; x < 16; x++) {
                    int depth = Math.min(Math.min(x, y), Math.min(15 - x, 15 - y));
                    twins.setPixel(x, y, (depth + shift) % 2 == 0 ? 1 : 0);
                }
            }
            traceAndFill(twins);
            Check.due("rings " + shift + ": contours", twins.contourCount(), shift == 0 ? 8 : 7);
        }
    }

    /** The rasters with the most contours: all the even pixels alone, all chequers, and all but single holes. */
    private static void chequers() {
        Twins islands = new Twins("islands", 16, 16);
        Twins chequers = new Twins("chequers", 16, 16);
        for (int y = 0; y < 16; y++) {
            islands.setRow(y, y % 2 == 0 ? 0x5555 : 0);
            chequers.setRow(y, y % 2 == 0 ? 0x5555 : 0xaaaa);
        }
        traceAndFill(islands);
        traceAndFill(chequers);
        Check.due("islands: contours", islands.contourCount(), 64);
        Check.due("chequers: contours", chequers.contourCount(), 1 + 14 * 14 / 2);
    }

    private static void traceAndFill(Twins twins) {
        twins.trace();
        twins.compareAll();
        for (int k = 0; k < twins.contourCount(); k++) {
            twins.toggleFill(k);
            twins.comparePlanes();
        }
        twins.toggleFill(0);
        twins.fillAll();
        twins.compareAll();
    }
}
