import java.util.List;
import java.util.function.Function;

/** What an object answers of its state, as text, so that two states can be compared. */
final class State {
    private static final int FROM = -1;
    private static final int TO = 17;

    private interface Plane {
        int at(BorderTracer tracer, int x, int y);
    }

    private interface Contour {
        int of(BorderTracer tracer, int k);
    }

    /** One part for each question, so that no question's own doings hide what another would show. */
    static final List<Function<BorderTracer, String>> PARTS = List.of(
        tracer -> "count " + tracer.contourCount(),
        tracer -> "equal " + tracer.filledEqualsBitmap(),
        tracer -> "pixels" + plane(tracer, BorderTracer::getPixel),
        tracer -> "filled" + plane(tracer, BorderTracer::getFilled),
        tracer -> "contours of pixels" + plane(tracer, BorderTracer::contourOf),
        tracer -> "kinds" + contours(tracer, BorderTracer::contourKind),
        tracer -> "parents" + contours(tracer, BorderTracer::contourParent),
        tracer -> "starts" + contours(tracer, BorderTracer::contourStart),
        tracer -> "lengths" + contours(tracer, BorderTracer::contourLength),
        tracer -> "areas" + contours(tracer, BorderTracer::contourArea),
        tracer -> "edges" + edges(tracer));

    private State() {
    }

    /** All parts, asked of one object. */
    static String of(BorderTracer tracer) {
        StringBuilder text = new StringBuilder();
        for (Function<BorderTracer, String> part : PARTS) {
            text.append(part.apply(tracer)).append('\n');
        }
        return text.toString();
    }

    /** The contours alone, without the planes. */
    static String contours(BorderTracer tracer) {
        StringBuilder text = new StringBuilder(PARTS.get(0).apply(tracer));
        for (Function<BorderTracer, String> part : PARTS.subList(4, PARTS.size())) {
            text.append(part.apply(tracer)).append('\n');
        }
        return text.toString();
    }

    private static String plane(BorderTracer tracer, Plane plane) {
        StringBuilder text = new StringBuilder();
        for (int y = FROM; y <= TO; y++) {
            text.append('\n');
            for (int x = FROM; x <= TO; x++) {
                text.append(plane.at(tracer, x, y)).append(' ');
            }
        }
        return text.toString();
    }

    /** The numbers go past every contour of the situations that the tests make. */
    private static String contours(BorderTracer tracer, Contour contour) {
        StringBuilder text = new StringBuilder();
        for (int k = -1; k <= 9; k++) {
            text.append(' ').append(contour.of(tracer, k));
        }
        return text.toString();
    }

    private static String edges(BorderTracer tracer) {
        StringBuilder text = new StringBuilder();
        for (int k = -1; k <= 9; k++) {
            for (int triple = 0; triple < 18 * 18 * 4; triple++) {
                int x = triple / 4 % 18 - 1;
                int y = triple / 72 - 1;
                if (tracer.hasEdge(k, x, y, triple % 4)) {
                    text.append(' ').append(k).append(',').append(triple);
                }
            }
        }
        return text.toString();
    }
}
