/** Rasters drawn as text: '#' is foreground, anything else background. */
final class Pictures {
    static final int[] NOT_A_COORDINATE = {
        Integer.MIN_VALUE, Integer.MIN_VALUE + 1, -65536, -256, -17, -16, -1, 16, 17, 256, 65536,
        Integer.MAX_VALUE - 1, Integer.MAX_VALUE
    };

    /** A ring with an island in its hole, and a pixel that touches the ring only at a corner. */
    static final String[] RING = {
        "........",
        ".#####..",
        ".#...#..",
        ".#.#.#..",
        ".#...#..",
        ".#####..",
        "......#.",
        "........"
    };

    /** A diamond whose hole is closed by diagonal steps only. */
    static final String[] DIAMOND = {
        "..#..",
        ".#.#.",
        "#...#",
        ".#.#.",
        "..#.."
    };

    /** Two islands in one hole, one of which has a hole itself, and a second component beside. */
    static final String[] NESTED = {
        "###########..#",
        "#.........#..#",
        "#.###.....#..#",
        "#.#.#..##.#...",
        "#.###..##.#...",
        "#.........#...",
        "###########..."
    };

    private Pictures() {
    }

    static BorderTracer draw(String... rows) {
        BorderTracer tracer = new BorderTracer(rows[0].length(), rows.length);
        for (int y = 0; y < rows.length; y++) {
            for (int x = 0; x < rows[y].length(); x++) {
                tracer.setPixel(x, y, rows[y].charAt(x) == '#' ? 1 : 0);
            }
        }
        return tracer;
    }

    static BorderTracer drawAndTrace(String... rows) {
        BorderTracer tracer = draw(rows);
        tracer.trace();
        return tracer;
    }

    /** Every answer that a fixed size tracer can give of its state, as one text. */
    static String state(BorderTracer tracer, int width, int height) {
        StringBuilder text = new StringBuilder();
        text.append(tracer.contourCount()).append(' ').append(tracer.filledEqualsBitmap()).append('\n');
        for (int y = 0; y < height; y++) {
            for (int x = 0; x < width; x++) {
                text.append(tracer.getPixel(x, y)).append(tracer.getFilled(x, y)).append(',');
                text.append(tracer.contourOf(x, y)).append(' ');
            }
        }
        for (int k = 0; k < tracer.contourCount(); k++) {
            text.append('\n').append(tracer.contourKind(k)).append(' ').append(tracer.contourParent(k));
            text.append(' ').append(tracer.contourStart(k)).append(' ').append(tracer.contourLength(k));
            text.append(' ').append(tracer.contourArea(k)).append(' ').append(edges(tracer, k, width, height));
        }
        return text.toString();
    }

    static String edges(BorderTracer tracer, int k, int width, int height) {
        StringBuilder text = new StringBuilder();
        for (int y = 0; y < height; y++) {
            for (int x = 0; x < width; x++) {
                for (int side = 0; side < 4; side++) {
                    text.append(tracer.hasEdge(k, x, y, side) ? '1' : '0');
                }
            }
        }
        return text.toString();
    }

    /** The fill plane in the form of a picture. */
    static String filled(BorderTracer tracer, int width, int height) {
        StringBuilder text = new StringBuilder();
        for (int y = 0; y < height; y++) {
            for (int x = 0; x < width; x++) {
                text.append(tracer.getFilled(x, y) == 1 ? '#' : '.');
            }
            text.append('\n');
        }
        return text.toString();
    }
}
