/** Looks whether INVALIDATE has happened in full: not traced, no contours, an empty fill plane. */
final class Invalidated {
    private Invalidated() {
    }

    static void look(String when, BorderTracer tracer) {
        Check.due(when + " contourCount", tracer.contourCount(), BorderTracer.NOT_TRACED);
        for (int k = -1; k < 9; k++) {
            noContour(when, tracer, k);
        }
        for (int y = 0; y < 16; y++) {
            for (int x = 0; x < 16; x++) {
                Check.due(when + " getFilled " + x + " " + y, tracer.getFilled(x, y), 0);
                Check.due(when + " contourOf " + x + " " + y, tracer.contourOf(x, y), BorderTracer.NO_CONTOUR);
            }
        }
        Check.due(when + " fillAll", tracer.fillAll(), BorderTracer.REFUSED);
    }

    private static void noContour(String when, BorderTracer tracer, int k) {
        Check.due(when + " contourKind " + k, tracer.contourKind(k), BorderTracer.KIND_NONE);
        Check.due(when + " contourParent " + k, tracer.contourParent(k), BorderTracer.INVALID);
        Check.due(when + " contourStart " + k, tracer.contourStart(k), -1);
        Check.due(when + " contourLength " + k, tracer.contourLength(k), 0);
        Check.due(when + " contourArea " + k, tracer.contourArea(k), 0);
        Check.due(when + " toggleFill " + k, tracer.toggleFill(k), false);
        for (int triple = 0; triple < 16 * 16 * 4; triple++) {
            boolean edge = tracer.hasEdge(k, triple / 4 % 16, triple / 64, triple % 4);
            Check.due(when + " hasEdge " + k + " " + triple, edge, false);
        }
    }
}
