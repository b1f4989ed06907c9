/**
 * The last paragraph of "Terms" (arguments may be any int), the Terms' word on refused calls, and the answers for
 * points that are no pixels, which "Not promised" names as fixed.
 */
public final class AnyIntTest {
    public static void main(String[] args) {
        anyInt();
        insideTheStride();
        notAPixel();
        refusedCalls();
        Check.finish();
    }

    /** Every method with every combination of extremes: it answers, and as the model does. */
    private static void anyInt() {
        Check.sentence("Arguments of every method may be any int, including negative values and values at the "
            + "extremes of the int range");
        for (Situation situation : Situation.all()) {
            Model model = modelOf(situation);
            BorderTracer tracer = situation.make();
            for (int a : Wrong.EXTREMES) {
                numbers(situation.name + ": " + a, tracer, model, a);
                for (int b : Wrong.EXTREMES) {
                    points(situation.name + ": " + a + " " + b, tracer, model, a, b);
                    edges(situation.name + ": " + a + " " + b, tracer, model, a, b);
                }
            }
            changes(situation, model, tracer);
        }
    }

    private static void numbers(String made, BorderTracer tracer, Model model, int k) {
        Check.due(made + " contourKind", tracer.contourKind(k), model.contourKind(k));
        Check.due(made + " contourParent", tracer.contourParent(k), model.contourParent(k));
        Check.due(made + " contourStart", tracer.contourStart(k), model.contourStart(k));
        Check.due(made + " contourLength", tracer.contourLength(k), model.contourLength(k));
        Check.due(made + " contourArea", tracer.contourArea(k), model.contourArea(k));
        Check.due(made + " toggleFill", tracer.toggleFill(k), model.toggleFill(k));
    }

    private static void points(String made, BorderTracer tracer, Model model, int x, int y) {
        Check.due(made + " getPixel", tracer.getPixel(x, y), model.getPixel(x, y));
        Check.due(made + " getFilled", tracer.getFilled(x, y), model.getFilled(x, y));
        Check.due(made + " contourOf", tracer.contourOf(x, y), model.contourOf(x, y));
    }

    private static void edges(String made, BorderTracer tracer, Model model, int k, int x) {
        for (int y : Wrong.EXTREMES) {
            for (int side : Wrong.EXTREMES) {
                String call = made + " hasEdge " + y + " " + side;
                Check.due(call, tracer.hasEdge(k, x, y, side), model.hasEdge(k, x, y, side));
            }
        }
    }

    private static void changes(Situation situation, Model model, BorderTracer tracer) {
        for (int a : Wrong.EXTREMES) {
            for (int b : Wrong.EXTREMES) {
                String made = situation.name + ": " + a + " " + b;
                Check.due(made + " setRow", tracer.setRow(a, b), model.setRow(a, b));
                for (int value : Wrong.EXTREMES) {
                    String call = made + " setPixel " + value;
                    Check.due(call, tracer.setPixel(a, b, value), model.setPixel(a, b, value));
                    points(call, tracer, model, a, b);
                }
            }
        }
        Check.due(situation.name + ": trace at the end", tracer.trace(), model.trace());
        Check.due(situation.name + ": fillAll at the end", tracer.fillAll(), model.fillAll());
    }

    /** A model in the same state. */
    private static Model modelOf(Situation situation) {
        Model model = new Model(situation.width(), situation.height());
        for (int y = 0; y < situation.height(); y++) {
            for (int x = 0; x < situation.width(); x++) {
                model.setPixel(x, y, situation.pixels[y].charAt(x) == '#' ? 1 : 0);
            }
        }
        if (situation.count >= 0) {
            model.trace();
            for (int k = 0; k < situation.count; k++) {
                toggleAsIn(situation, model, k);
            }
        }
        return model;
    }

    /** A contour is toggled if its region's fill differs from what the contours before it have made of it. */
    private static void toggleAsIn(Situation situation, Model model, int k) {
        for (int y = 0; y < situation.height(); y++) {
            for (int x = 0; x < situation.width(); x++) {
                int want = situation.filled[y].charAt(x) == '#' ? 1 : 0;
                if (model.contourOf(x, y) == k && model.getFilled(x, y) != want) {
                    model.toggleFill(k);
                }
            }
        }
    }

    private static void insideTheStride() {
        Check.sentence("a coordinate that does not name a pixel (for example x >= W even when x < 16) simply counts "
            + "as \"not a pixel\"");
        for (int size = 0; size < 256; size++) {
            int width = 1 + size % 16;
            int height = 1 + size / 16;
            BorderTracer tracer = Pictures.drawAndTrace(Situation.full(width, height));
            tracer.fillAll();
            for (int x = width; x < 16; x++) {
                fixedAnswers("full " + size, tracer, x, 0);
                fixedAnswers("full " + size, tracer, x, height - 1);
            }
            for (int y = height; y < 16; y++) {
                fixedAnswers("full " + size, tracer, 0, y);
                fixedAnswers("full " + size, tracer, width - 1, y);
                Check.due("full " + size + ": setRow " + y, tracer.setRow(y, -1), false);
            }
            Check.due("full " + size + ": area", tracer.contourArea(0), width * height);
            Check.due("full " + size + ": fillAll", tracer.fillAll(), width * height);
        }
    }

    private static void notAPixel() {
        Check.sentence("for an (x,y) that is not a pixel the answers are fixed: getPixel 0, getFilled 0, contourOf "
            + "NO_CONTOUR, hasEdge false, setPixel false");
        for (Situation situation : Situation.all()) {
            Unchanged unchanged = new Unchanged(situation);
            for (int[] point : Wrong.points(situation.width(), situation.height())) {
                String call = "calls for " + point[0] + " " + point[1];
                unchanged.by(call, tracer -> fixedAnswers(situation.name, tracer, point[0], point[1]));
            }
            unchanged.end("calls for points that are no pixels");
        }
    }

    private static void fixedAnswers(String made, BorderTracer tracer, int x, int y) {
        String where = made + ": " + x + " " + y;
        Check.due(where + " getPixel", tracer.getPixel(x, y), 0);
        Check.due(where + " getFilled", tracer.getFilled(x, y), 0);
        Check.due(where + " contourOf", tracer.contourOf(x, y), BorderTracer.NO_CONTOUR);
        Check.due(where + " setPixel", tracer.setPixel(x, y, 1), false);
        for (int k = -1; k < 8; k++) {
            for (int side = 0; side < 4; side++) {
                Check.due(where + " hasEdge " + k + " " + side, tracer.hasEdge(k, x, y, side), false);
            }
        }
    }

    private static void refusedCalls() {
        Check.sentence("A REFUSED call changes nothing.");
        for (Situation situation : Situation.all()) {
            Unchanged unchanged = new Unchanged(situation);
            int width = situation.width();
            int height = situation.height();
            unchanged.refused("setPixel(W, H-1, 1)", tracer -> tracer.setPixel(width, height - 1, 1));
            unchanged.refused("setRow(H, -1)", tracer -> tracer.setRow(height, -1));
            unchanged.refused("toggleFill(n)", tracer -> tracer.toggleFill(situation.n()));
            if (situation.count < 0) {
                unchanged.refused("fillAll()", tracer -> tracer.fillAll() != BorderTracer.REFUSED);
            }
            unchanged.end("refused calls");
        }
    }
}
