/** Every answer that an object gives of its state, as one text, so that two states can be compared. */
final class State {
    private static final int FROM = -1;
    private static final int TO = 17;

    private State() {
    }

    static String of(BorderTracer tracer) {
        StringBuilder text = new StringBuilder();
        text.append("count ").append(tracer.contourCount());
        text.append(", equal ").append(tracer.filledEqualsBitmap()).append('\n');
        for (int y = FROM; y <= TO; y++) {
            for (int x = FROM; x <= TO; x++) {
                text.append(tracer.getPixel(x, y)).append(tracer.getFilled(x, y)).append(',');
                text.append(tracer.contourOf(x, y)).append(' ');
            }
            text.append('\n');
        }
        return text + contours(tracer);
    }

    /** The contours alone, without the planes. */
    static String contours(BorderTracer tracer) {
        StringBuilder text = new StringBuilder();
        for (int k = -1; k <= tracer.contourCount(); k++) {
            text.append(k).append(": kind ").append(tracer.contourKind(k));
            text.append(", parent ").append(tracer.contourParent(k));
            text.append(", start ").append(tracer.contourStart(k));
            text.append(", length ").append(tracer.contourLength(k));
            text.append(", area ").append(tracer.contourArea(k));
            text.append(", edges ").append(edges(tracer, k)).append('\n');
        }
        return text.toString();
    }

    private static String edges(BorderTracer tracer, int k) {
        StringBuilder text = new StringBuilder();
        for (int y = FROM; y <= TO; y++) {
            for (int x = FROM; x <= TO; x++) {
                for (int side = 0; side < 4; side++) {
                    if (tracer.hasEdge(k, x, y, side)) {
                        text.append(x).append(' ').append(y).append(' ').append(side).append(';');
                    }
                }
            }
        }
        return text.toString();
    }
}
