import java.util.ArrayList;
import java.util.List;
import java.util.function.Supplier;

/** The states that an object can be in, made anew as often as wanted, with what is known of each by hand. */
final class Situation {
    private static final int NOT_TRACED = -1;

    private static final String[] EMPTY = {".....", ".....", "....."};
    private static final String[] RING_HOLE = {
        "........", "........", "..###...", "..###...", "..###...", "........", "........", "........"
    };
    private static final String[] RING_EMPTIED = {
        "........", ".#####..", ".#...#..", ".#...#..", ".#...#..", ".#####..", "......#.", "........"
    };
    private static final String[] NESTED_HOLE = {
        "..............", ".#########....", ".#########....", ".#########....", ".#########....", ".#########....",
        ".............."
    };
    private static final String[] NESTED_TOP = {
        "###########..#", "..............", "..............", "..............", "..............", "..............",
        ".............."
    };
    private static final String[] NESTED_TOP_RIGHT = {
        ".............#", "..............", "..............", "..............", "..............", "..............",
        ".............."
    };

    final String name;
    final String[] pixels;
    final String[] filled;
    /** The number of contours, or -1 if not traced. */
    final int count;
    /** The number of contours that a trace finds. */
    final int found;
    private final Supplier<BorderTracer> maker;

    private Situation(String name, String[] pixels, String[] filled, int count, int found,
            Supplier<BorderTracer> maker) {
        this.name = name;
        this.pixels = pixels;
        this.filled = filled;
        this.count = count;
        this.found = found;
        this.maker = maker;
    }

    static List<Situation> all() {
        List<Situation> all = new ArrayList<>(traced());
        all.addAll(notTraced());
        return all;
    }

    static List<Situation> notTraced() {
        String[] ring = Pictures.RING;
        return List.of(
            new Situation("fresh", EMPTY, EMPTY, NOT_TRACED, 0, () -> new BorderTracer(5, 3)),
            new Situation("drawn", ring, blank(ring), NOT_TRACED, 3, () -> Pictures.draw(ring)),
            new Situation("pixel changed", RING_EMPTIED, blank(ring), NOT_TRACED, 2, () -> {
                BorderTracer tracer = filledAll(ring);
                tracer.setPixel(3, 3, 0);
                return tracer;
            }),
            new Situation("row set as it was", ring, blank(ring), NOT_TRACED, 3, () -> {
                BorderTracer tracer = filledAll(ring);
                tracer.setRow(1, 0x3e);
                return tracer;
            }));
    }

    static List<Situation> traced() {
        String[] ring = Pictures.RING;
        String[] full = full(16, 16);
        String[] pixel = {"#"};
        String[] dots = {"#.#.#.#.#.#.#.#."};
        String[] lastDot = {"..............#."};
        return List.of(
            new Situation("empty traced", EMPTY, EMPTY, 0, 0, () -> Pictures.drawAndTrace(EMPTY)),
            new Situation("ring traced", ring, blank(ring), 3, 3, () -> Pictures.drawAndTrace(ring)),
            new Situation("ring, hole filled", ring, RING_HOLE, 3, 3, () -> filledOne(1, ring)),
            new Situation("ring filled", ring, ring, 3, 3, () -> filledAll(ring)),
            new Situation("full filled", full, full, 1, 1, () -> filledAll(full)),
            new Situation("one pixel", pixel, blank(pixel), 1, 1, () -> Pictures.drawAndTrace(pixel)),
            new Situation("one row", dots, lastDot, 8, 8, () -> filledOne(7, dots)),
            new Situation("nested", Pictures.NESTED, NESTED_HOLE, 6, 6, () -> filledOne(2, Pictures.NESTED)),
            new Situation("fewer contours than before", NESTED_TOP, NESTED_TOP_RIGHT, 2, 2, () -> {
                BorderTracer tracer = filledAll(Pictures.NESTED);
                for (int y = 1; y < 7; y++) {
                    tracer.setRow(y, 0);
                }
                tracer.trace();
                tracer.toggleFill(1);
                return tracer;
            }));
    }

    BorderTracer make() {
        return maker.get();
    }

    int width() {
        return pixels[0].length();
    }

    int height() {
        return pixels.length;
    }

    /** No number of 0 or more is valid while not traced, so n counts as 0 then. */
    int n() {
        return count == NOT_TRACED ? 0 : count;
    }

    static String[] full(int width, int height) {
        String[] rows = new String[height];
        java.util.Arrays.fill(rows, "#".repeat(width));
        return rows;
    }

    private static String[] blank(String[] rows) {
        String[] blank = new String[rows.length];
        java.util.Arrays.fill(blank, ".".repeat(rows[0].length()));
        return blank;
    }

    private static BorderTracer filledOne(int k, String... rows) {
        BorderTracer tracer = Pictures.drawAndTrace(rows);
        tracer.toggleFill(k);
        return tracer;
    }

    private static BorderTracer filledAll(String... rows) {
        BorderTracer tracer = Pictures.drawAndTrace(rows);
        tracer.fillAll();
        return tracer;
    }
}
