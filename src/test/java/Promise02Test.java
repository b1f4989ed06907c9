/** Promise 2: setPixel. */
public final class Promise02Test {
    public static void main(String[] args) {
        values();
        onlyThatPixel();
        invalidates();
        refused();
        Check.finish();
    }

    private static void values() {
        BorderTracer tracer = new BorderTracer(3, 2);
        int[] set = {1, 2, -1, 256, 65536, Integer.MIN_VALUE, Integer.MAX_VALUE};
        for (int value : set) {
            Check.due("setPixel 0", tracer.setPixel(2, 1, 0), true);
            Check.due("after 0", tracer.getPixel(2, 1), 0);
            Check.due("setPixel " + value, tracer.setPixel(2, 1, value), true);
            Check.due("after " + value, tracer.getPixel(2, 1), 1);
        }
    }

    private static void onlyThatPixel() {
        for (int cell = 0; cell < 256; cell++) {
            BorderTracer tracer = new BorderTracer(16, 16);
            tracer.setPixel(cell % 16, cell / 16, 1);
            for (int other = 0; other < 256; other++) {
                int got = tracer.getPixel(other % 16, other / 16);
                Check.due("pixel " + other + " after " + cell, got, other == cell ? 1 : 0);
            }
        }
    }

    private static void invalidates() {
        for (int value = 0; value < 2; value++) {
            BorderTracer tracer = Pictures.drawAndTrace(Pictures.RING);
            tracer.fillAll();
            // The pixel (1,1) is already 1, so for value 1 nothing but the state changes.
            Check.due("setPixel", tracer.setPixel(1, 1, value), true);
            Check.due("contourCount", tracer.contourCount(), BorderTracer.NOT_TRACED);
            Check.due("contourKind", tracer.contourKind(0), BorderTracer.KIND_NONE);
            Check.due("contourParent", tracer.contourParent(0), BorderTracer.INVALID);
            Check.due("contourStart", tracer.contourStart(0), -1);
            Check.due("contourLength", tracer.contourLength(0), 0);
            Check.due("contourArea", tracer.contourArea(0), 0);
            Check.due("hasEdge", tracer.hasEdge(0, 1, 1, BorderTracer.SIDE_TOP), false);
            Check.due("contourOf", tracer.contourOf(1, 1), BorderTracer.NO_CONTOUR);
            Check.due("toggleFill", tracer.toggleFill(0), false);
            Check.due("fillAll", tracer.fillAll(), BorderTracer.REFUSED);
            Check.due("fill plane empty", Pictures.filled(tracer, 8, 8).contains("#"), false);
        }
    }

    private static void refused() {
        BorderTracer tracer = Pictures.drawAndTrace(Pictures.RING);
        tracer.toggleFill(1);
        String before = Pictures.state(tracer, 8, 8);
        for (int wrong : Pictures.NOT_A_COORDINATE) {
            Check.due("setPixel x " + wrong, tracer.setPixel(wrong, 1, 1), false);
            Check.due("setPixel y " + wrong, tracer.setPixel(1, wrong, 1), false);
            Check.due("setPixel both " + wrong, tracer.setPixel(wrong, wrong, 0), false);
        }
        for (int wrong = 8; wrong < 16; wrong++) {
            Check.due("setPixel x " + wrong, tracer.setPixel(wrong, 1, 0), false);
            Check.due("setPixel y " + wrong, tracer.setPixel(1, wrong, 1), false);
        }
        Check.due("refused calls change nothing", Pictures.state(tracer, 8, 8).equals(before), true);
    }
}
