import java.util.Arrays;

/** Promise 17: filledEqualsBitmap. */
public final class Promise17Test {
    public static void main(String[] args) {
        onePixelUnfilled();
        oneHoleFilled();
        filling();
        inEveryState();
        notTraced();
        changesNothing();
        Check.finish();
    }

    /** Each pixel counts, the last of a row and of the raster too. */
    private static void onePixelUnfilled() {
        Check.sentence("answers true exactly when every pixel's fill plane value equals its pixel value: a pixel not "
            + "filled");
        for (int side = 1; side <= 16; side += 5) {
            for (int cell = 0; cell < side * side; cell++) {
                BorderTracer tracer = new BorderTracer(side, side);
                tracer.setPixel(cell % side, cell / side, 1);
                tracer.trace();
                Check.due("pixel " + cell + " set", tracer.filledEqualsBitmap(), false);
                tracer.toggleFill(0);
                Check.due("pixel " + cell + " filled", tracer.filledEqualsBitmap(), true);
            }
        }
    }

    private static void oneHoleFilled() {
        Check.sentence("answers true exactly when every pixel's fill plane value equals its pixel value: a hole "
            + "filled");
        for (int y = 1; y < 15; y++) {
            for (int x = 1; x < 15; x++) {
                BorderTracer tracer = Pictures.draw(Situation.full(16, 16));
                tracer.setPixel(x, y, 0);
                tracer.trace();
                tracer.toggleFill(0);
                Check.due("hole " + x + " " + y + " filled", tracer.filledEqualsBitmap(), false);
                tracer.toggleFill(1);
                Check.due("hole " + x + " " + y + " empty", tracer.filledEqualsBitmap(), true);
            }
        }
    }

    private static void filling() {
        Check.sentence("answers true exactly when every pixel's fill plane value equals its pixel value: step by step");
        BorderTracer tracer = Pictures.drawAndTrace("###", "#.#", "###");
        Check.due("nothing filled", tracer.filledEqualsBitmap(), false);
        tracer.toggleFill(0);
        Check.due("hole filled too", tracer.filledEqualsBitmap(), false);
        tracer.toggleFill(1);
        Check.due("all as the raster", tracer.filledEqualsBitmap(), true);
        tracer.toggleFill(0);
        Check.due("only the hole filled", tracer.filledEqualsBitmap(), false);
        tracer.fillAll();
        Check.due("after fillAll", tracer.filledEqualsBitmap(), true);
        tracer.trace();
        Check.due("traced again", tracer.filledEqualsBitmap(), false);
        tracer.setRow(3, -1);
        tracer.setPixel(0, 3, 1);
        tracer.fillAll();
        Check.due("after refused calls", tracer.filledEqualsBitmap(), true);
    }

    private static void inEveryState() {
        Check.sentence("It is answered in every state");
        for (Situation situation : Situation.all()) {
            boolean want = Arrays.equals(situation.pixels, situation.filled);
            Check.due(situation.name, situation.make().filledEqualsBitmap(), want);
        }
    }

    private static void notTraced() {
        Check.sentence("also when TRACED is false (then the fill plane is all 0, so it answers true exactly when all "
            + "pixels are 0)");
        for (int side = 1; side <= 16; side += 5) {
            for (int cell = 0; cell < side * side; cell++) {
                BorderTracer tracer = new BorderTracer(side, side);
                Check.due("fresh", tracer.filledEqualsBitmap(), true);
                tracer.setPixel(cell % side, cell / side, 1);
                Check.due("pixel " + cell + " set", tracer.filledEqualsBitmap(), false);
                tracer.trace();
                tracer.fillAll();
                tracer.setPixel(cell % side, cell / side, 1);
                Check.due("pixel " + cell + " set again, fill gone", tracer.filledEqualsBitmap(), false);
                tracer.trace();
                tracer.fillAll();
                tracer.setPixel(cell % side, cell / side, 0);
                Check.due("pixel " + cell + " cleared", tracer.filledEqualsBitmap(), true);
            }
        }
    }

    private static void changesNothing() {
        Check.sentence("It changes nothing.");
        for (Situation situation : Situation.all()) {
            Unchanged unchanged = new Unchanged(situation);
            unchanged.by("filledEqualsBitmap()", BorderTracer::filledEqualsBitmap);
            unchanged.end("filledEqualsBitmap");
        }
    }
}
