import java.util.function.IntBinaryOperator;

/** Rasters drawn as text: '#' is foreground, anything else background. */
final class Pictures {
    /** A ring with an island in its hole, and a pixel that touches the ring only at a corner. */
    static final String[] RING = {
        "........",
        ".#####..",
        ".#...#..",
        ".#.#.#..",
        ".#...#..",
        ".#####..",
        "......#.",
        "........"
    };

    /** A diamond whose hole is closed by diagonal steps only. */
    static final String[] DIAMOND = {
        "..#..",
        ".#.#.",
        "#...#",
        ".#.#.",
        "..#.."
    };

    /** Two islands in one hole, one of which has a hole itself, and a second component beside. */
    static final String[] NESTED = {
        "###########..#",
        "#.........#..#",
        "#.###.....#..#",
        "#.#.#..##.#...",
        "#.###..##.#...",
        "#.........#...",
        "###########..."
    };

    private Pictures() {
    }

    static BorderTracer draw(String... rows) {
        BorderTracer tracer = new BorderTracer(rows[0].length(), rows.length);
        for (int y = 0; y < rows.length; y++) {
            for (int x = 0; x < rows[y].length(); x++) {
                tracer.setPixel(x, y, rows[y].charAt(x) == '#' ? 1 : 0);
            }
        }
        return tracer;
    }

    static BorderTracer drawAndTrace(String... rows) {
        BorderTracer tracer = draw(rows);
        tracer.trace();
        return tracer;
    }

    /** The raster in the form of a picture. */
    static String pixels(BorderTracer tracer, int width, int height) {
        return picture(tracer::getPixel, width, height);
    }

    /** The fill plane in the form of a picture. */
    static String filled(BorderTracer tracer, int width, int height) {
        return picture(tracer::getFilled, width, height);
    }

    static String lines(String... rows) {
        return String.join("\n", rows) + "\n";
    }

    private static String picture(IntBinaryOperator plane, int width, int height) {
        StringBuilder text = new StringBuilder();
        for (int y = 0; y < height; y++) {
            for (int x = 0; x < width; x++) {
                int value = plane.applyAsInt(x, y);
                text.append(value == 1 ? '#' : value == 0 ? '.' : '?');
            }
            text.append('\n');
        }
        return text.toString();
    }
}
