/** The words under "Terms" on the raster, on what is joined, and on the state of an object. */
public final class TermsTest {
    public static void main(String[] args) {
        sides();
        pixels();
        values();
        freshPixels();
        freshFillPlane();
        freshNotTraced();
        outerCells();
        rasterIndex();
        earlier();
        foregroundJoins();
        backgroundJoins();
        namedSides();
        eightNeighbours();
        outerCellsAreOutside();
        outsideAtEachRim();
        outsideByLongWays();
        holes();
        invalidate();
        validNumbers();
        Check.finish();
    }

    private static void sides() {
        Check.sentence("W, H: width and height, fixed by the constructor, each in 1..16.");
        for (int width = -1; width <= 18; width++) {
            for (int height = -1; height <= 18; height++) {
                BorderTracer tracer = new BorderTracer(width, height);
                int accepted = 0;
                for (int point = 0; point < 400; point++) {
                    accepted += tracer.setPixel(point % 20 - 1, point / 20 - 1, 1) ? 1 : 0;
                }
                int due = Math.max(1, Math.min(16, width)) * Math.max(1, Math.min(16, height));
                Check.due("pixels of " + width + " x " + height, accepted, due);
            }
        }
    }

    private static void pixels() {
        Check.sentence("PIXEL (x,y): 0 <= x < W and 0 <= y < H");
        for (int size = 0; size < 256; size++) {
            int width = 1 + size % 16;
            int height = 1 + size / 16;
            BorderTracer tracer = new BorderTracer(width, height);
            Check.due("0 0", tracer.setPixel(0, 0, 1), true);
            Check.due("W-1 0", tracer.setPixel(width - 1, 0, 1), true);
            Check.due("0 H-1", tracer.setPixel(0, height - 1, 1), true);
            Check.due("W-1 H-1", tracer.setPixel(width - 1, height - 1, 1), true);
            Check.due("-1 0", tracer.setPixel(-1, 0, 1), false);
            Check.due("0 -1", tracer.setPixel(0, -1, 1), false);
            Check.due("W 0", tracer.setPixel(width, 0, 1), false);
            Check.due("0 H", tracer.setPixel(0, height, 1), false);
            Check.due("W-1 H", tracer.setPixel(width - 1, height, 1), false);
            Check.due("W H-1", tracer.setPixel(width, height - 1, 1), false);
        }
    }

    private static void values() {
        Check.sentence("its value is 0 (background) or 1 (foreground)");
        for (int value : Wrong.EXTREMES) {
            BorderTracer tracer = new BorderTracer(1, 1);
            tracer.setPixel(0, 0, value);
            Check.due("value " + value, tracer.getPixel(0, 0), value == 0 ? 0 : 1);
            Check.due("contours of value " + value, tracer.trace(), value == 0 ? 0 : 1);
            tracer.setRow(0, value);
            Check.due("bits " + value, tracer.getPixel(0, 0), value % 2 == 0 ? 0 : 1);
            Check.due("contours of bits " + value, tracer.trace(), value % 2 == 0 ? 0 : 1);
        }
    }

    private static void freshPixels() {
        Check.sentence("On a fresh object all pixels are 0.");
        for (int side = 1; side <= 16; side++) {
            BorderTracer tracer = new BorderTracer(side, 17 - side);
            Check.due("pixels", Pictures.pixels(tracer, 16, 16).contains("#"), false);
            Check.due("contours of the pixels", tracer.trace(), 0);
        }
    }

    private static void freshFillPlane() {
        Check.sentence("FILL PLANE: a second value 0 or 1 per pixel; all 0 on a fresh object.");
        for (int side = 1; side <= 16; side++) {
            BorderTracer tracer = new BorderTracer(side, 17 - side);
            Check.due("fill plane", Pictures.filled(tracer, 16, 16).contains("#"), false);
        }
    }

    private static void freshNotTraced() {
        Check.sentence("TRACED: false on a fresh object.");
        for (int side = 1; side <= 16; side++) {
            BorderTracer tracer = new BorderTracer(side, 17 - side);
            Check.due("contourCount", tracer.contourCount(), BorderTracer.NOT_TRACED);
            Check.due("fillAll", tracer.fillAll(), BorderTracer.REFUSED);
        }
    }

    private static void outerCells() {
        Check.sentence("OUTER CELL: any integer point (x,y) that is not a pixel. Every outer cell is background.");
        for (int size = 0; size < 256; size++) {
            int width = 1 + size % 16;
            int height = 1 + size / 16;
            BorderTracer tracer = Pictures.draw(Situation.full(width, height));
            Check.due("full: contours", tracer.trace(), 1);
            Check.due("full: parent", tracer.contourParent(0), BorderTracer.NO_PARENT);
            Check.due("full: length", tracer.contourLength(0), 2 * (width + height));
        }
        // The cells left and right of a bar are joined round its ends, though no pixels join them.
        BorderTracer bar = Pictures.drawAndTrace(".#.", ".#.", ".#.");
        Check.due("bar: length", bar.contourLength(0), 8);
        Check.due("bar: left", bar.hasEdge(0, 1, 1, BorderTracer.SIDE_LEFT), true);
        Check.due("bar: right", bar.hasEdge(0, 1, 1, BorderTracer.SIDE_RIGHT), true);
    }

    private static void rasterIndex() {
        Check.sentence("RASTER INDEX of (x,y): y*16+x.");
        for (int size = 0; size < 256; size++) {
            int width = 1 + size % 16;
            int height = 1 + size / 16;
            BorderTracer tracer = new BorderTracer(width, height);
            tracer.setPixel(width - 1, height - 1, 1);
            tracer.trace();
            Check.due("last pixel of " + width + " x " + height, tracer.contourStart(0), (height - 1) * 16 + width - 1);
        }
    }

    private static void earlier() {
        Check.sentence("EARLIER means smaller raster index (rows top to bottom, each row left to right).");
        BorderTracer tracer = new BorderTracer(16, 16);
        tracer.setPixel(0, 15, 1);
        tracer.setPixel(15, 13, 1);
        tracer.setPixel(0, 13, 1);
        tracer.setPixel(15, 0, 1);
        tracer.trace();
        Check.due("upper right", tracer.contourStart(0), 15);
        Check.due("left of a row", tracer.contourStart(1), 13 * 16);
        Check.due("right of the row", tracer.contourStart(2), 13 * 16 + 15);
        Check.due("lower left", tracer.contourStart(3), 15 * 16);
    }

    /** Over all pairs of pixels, so also over those at the ends of two rows, whose raster indexes are neighbours. */
    private static void foregroundJoins() {
        Check.sentence("FOREGROUND COMPONENT: a largest set of foreground pixels connected by steps between "
            + "8-neighbours.");
        for (int first = 0; first < 256; first++) {
            for (int second = first + 1; second < 256; second++) {
                BorderTracer tracer = new BorderTracer(16, 16);
                tracer.setPixel(first % 16, first / 16, 1);
                tracer.setPixel(second % 16, second / 16, 1);
                int dx = Math.abs(first % 16 - second % 16);
                int dy = Math.abs(first / 16 - second / 16);
                boolean joined = dx <= 1 && dy <= 1;
                Check.due("pixels " + first + " " + second, tracer.trace(), joined ? 1 : 2);
            }
        }
    }

    private static void backgroundJoins() {
        Check.sentence("BACKGROUND COMPONENT: a largest set of background cells (pixels and outer cells) connected by "
            + "steps between 4-neighbours.");
        for (int first = 0; first < 256; first++) {
            for (int second = first + 1; second < 256; second++) {
                BorderTracer tracer = new BorderTracer(16, 16);
                for (int y = 0; y < 16; y++) {
                    tracer.setRow(y, -1);
                }
                tracer.setPixel(first % 16, first / 16, 0);
                tracer.setPixel(second % 16, second / 16, 0);
                Check.due("pixels " + first + " " + second, tracer.trace(), 1 + holesOf(first, second));
            }
        }
    }

    private static int holesOf(int first, int second) {
        int dx = Math.abs(first % 16 - second % 16);
        int dy = Math.abs(first / 16 - second / 16);
        if (dx + dy == 1) {
            return atRim(first) || atRim(second) ? 0 : 1;
        }
        return (atRim(first) ? 0 : 1) + (atRim(second) ? 0 : 1);
    }

    private static boolean atRim(int cell) {
        return cell % 16 == 0 || cell % 16 == 15 || cell / 16 == 0 || cell / 16 == 15;
    }

    private static void namedSides() {
        Check.sentence("SIDES and 4-NEIGHBOURS of (x,y): SIDE_TOP (x,y-1), SIDE_RIGHT (x+1,y), SIDE_BOTTOM (x,y+1), "
            + "SIDE_LEFT (x-1,y).");
        BorderTracer tracer = Pictures.drawAndTrace("###", "#.#", "###");
        for (int triple = 0; triple < 36; triple++) {
            int x = triple / 4 % 3;
            int y = triple / 12;
            int side = triple % 4;
            boolean top = side == BorderTracer.SIDE_TOP && x == 1 && y == 2;
            boolean right = side == BorderTracer.SIDE_RIGHT && x == 0 && y == 1;
            boolean bottom = side == BorderTracer.SIDE_BOTTOM && x == 1 && y == 0;
            boolean left = side == BorderTracer.SIDE_LEFT && x == 2 && y == 1;
            boolean due = top || right || bottom || left;
            Check.due("hole's edge " + x + " " + y + " " + side, tracer.hasEdge(1, x, y, side), due);
        }
    }

    /** The middle pixel of 5 x 5 and each other one: they are joined unless that one is at the rim. */
    private static void eightNeighbours() {
        Check.sentence("The 8-NEIGHBOURS are these four plus (x-1,y-1), (x+1,y-1), (x-1,y+1), (x+1,y+1).");
        for (int cell = 0; cell < 25; cell++) {
            BorderTracer tracer = new BorderTracer(5, 5);
            tracer.setPixel(2, 2, 1);
            tracer.setPixel(cell % 5, cell / 5, 1);
            boolean rim = cell % 5 == 0 || cell % 5 == 4 || cell / 5 == 0 || cell / 5 == 4;
            Check.due("middle and " + cell % 5 + " " + cell / 5, tracer.trace(), rim ? 2 : 1);
        }
    }

    /** Parts of the background that only outer cells join are one component all the same. */
    private static void outerCellsAreOutside() {
        Check.sentence("The one holding the outer cells is OUTSIDE");
        BorderTracer tracer = Pictures.drawAndTrace("#.#", ".#.", "#.#");
        Check.due("cross", tracer.contourCount(), 1);
        Check.due("cross, length", tracer.contourLength(0), 20);
        for (int cell = 0; cell < 9; cell++) {
            Check.due("cross " + cell, tracer.contourOf(cell % 3, cell / 3), cell % 2 == 0 ? 0 : -1);
        }
        for (int side = 0; side < 4; side++) {
            Check.due("middle, side " + side, tracer.hasEdge(0, 1, 1, side), true);
        }
    }

    /** From each rim pixel a way of two pixels leads inwards: open, it lies in OUTSIDE; closed, it is a hole. */
    private static void outsideAtEachRim() {
        Check.sentence("a background pixel is in OUTSIDE exactly when 4-neighbour steps over background pixels join "
            + "it to a background pixel with x = 0, x = W-1, y = 0 or y = H-1");
        for (int size = 0; size < 196; size++) {
            int width = 3 + size % 14;
            int height = 3 + size / 14;
            for (int x = 1; x < width - 1; x++) {
                wayIn(width, height, x, 0, x, 1);
                wayIn(width, height, x, height - 1, x, height - 2);
            }
            for (int y = 1; y < height - 1; y++) {
                wayIn(width, height, 0, y, 1, y);
                wayIn(width, height, width - 1, y, width - 2, y);
            }
        }
        // A corner pixel is joined to the inner one by a diagonal only.
        BorderTracer corner = Pictures.drawAndTrace(".##", "#.#", "###");
        Check.due("corner", corner.contourOf(0, 0), BorderTracer.NO_CONTOUR);
        Check.due("beside the corner", corner.contourOf(1, 1), 1);
    }

    private static void wayIn(int width, int height, int rimX, int rimY, int innerX, int innerY) {
        String made = width + " x " + height + " from " + rimX + " " + rimY;
        BorderTracer tracer = new BorderTracer(width, height);
        for (int y = 0; y < height; y++) {
            tracer.setRow(y, -1);
        }
        tracer.setPixel(innerX, innerY, 0);
        tracer.trace();
        Check.due(made + " closed", tracer.contourOf(innerX, innerY), 1);
        tracer.setPixel(rimX, rimY, 0);
        Check.due(made + " open, contours", tracer.trace(), 1);
        Check.due(made + " open, rim", tracer.contourOf(rimX, rimY), BorderTracer.NO_CONTOUR);
        Check.due(made + " open", tracer.contourOf(innerX, innerY), BorderTracer.NO_CONTOUR);
    }

    /** A way up and down through all inner columns, in both directions and both ways round. */
    private static void outsideByLongWays() {
        Check.sentence("4-neighbour steps over background pixels join it to a background pixel at the rim: by a "
            + "long way");
        for (int turn = 0; turn < 4; turn++) {
            BorderTracer tracer = new BorderTracer(15, 15);
            for (int cell = 0; cell < 225; cell++) {
                tracer.setPixel(turned(turn, cell) % 15, turned(turn, cell) / 15, isWay(cell) ? 0 : 1);
            }
            Check.due("closed way", tracer.trace(), 2);
            Check.due("closed way, length", tracer.contourArea(1), -(7 * 13 + 6));
            int door = turned(turn, 15);
            tracer.setPixel(door % 15, door / 15, 0);
            Check.due("open way", tracer.trace(), 1);
            for (int cell = 0; cell < 225; cell++) {
                int x = turned(turn, cell) % 15;
                int y = turned(turn, cell) / 15;
                boolean outside = isWay(cell) || cell == 15;
                Check.due("open way " + x + " " + y, tracer.contourOf(x, y), outside ? -1 : 0);
            }
        }
    }

    /** All of the rows 1, 3, ... 13 but their ends, joined at the right and at the left by turns. */
    private static boolean isWay(int cell) {
        int x = cell % 15;
        int y = cell / 15;
        if (x == 0 || x == 14 || y == 0 || y == 14) {
            return false;
        }
        return y % 2 == 1 || x == (y % 4 == 2 ? 13 : 1);
    }

    private static int turned(int turn, int cell) {
        int x = cell % 15;
        int y = cell / 15;
        for (int quarter = 0; quarter < turn; quarter++) {
            int old = x;
            x = 14 - y;
            y = old;
        }
        return y * 15 + x;
    }

    private static void holes() {
        Check.sentence("Every other background component is a HOLE; it holds pixels only.");
        for (int width = 3; width <= 16; width++) {
            BorderTracer tracer = new BorderTracer(width, width);
            for (int y = 0; y < width; y++) {
                boolean rim = y == 0 || y == width - 1;
                tracer.setRow(y, rim ? -1 : 1 | 1 << (width - 1));
            }
            Check.due("frame", tracer.trace(), 2);
            Check.due("frame's hole", tracer.contourKind(1), BorderTracer.KIND_HOLE);
            Check.due("frame's hole, pixels", tracer.contourArea(1), -(width - 2) * (width - 2));
            Check.due("frame's hole, length", tracer.contourLength(1), 4 * (width - 2));
            Check.due("point outside", tracer.contourOf(width, 1), BorderTracer.NO_CONTOUR);
        }
        // Rasters with less than three rows or columns have no inner pixels, so no holes.
        for (int bits = 0; bits < 1 << 12; bits++) {
            BorderTracer low = new BorderTracer(6, 2);
            low.setRow(0, bits);
            low.setRow(1, bits >>> 6);
            low.trace();
            for (int k = 0; k < low.contourCount(); k++) {
                Check.due("low raster " + bits, low.contourKind(k), BorderTracer.KIND_OUTER);
            }
        }
    }

    private static void invalidate() {
        Check.sentence("INVALIDATE: TRACED becomes false, all contours vanish, every fill plane value becomes 0.");
        for (Situation situation : Situation.all()) {
            BorderTracer tracer = situation.make();
            tracer.setPixel(0, 0, 0);
            Invalidated.look(situation.name + ": setPixel", tracer);
        }
        for (Situation situation : Situation.all()) {
            BorderTracer tracer = situation.make();
            tracer.setRow(0, -1);
            Invalidated.look(situation.name + ": setRow", tracer);
        }
    }

    private static void validNumbers() {
        Check.sentence("VALID k: TRACED is true and 0 <= k < n, where n is the number of contours.");
        for (Situation situation : Situation.all()) {
            for (int k = -2; k < 12; k++) {
                boolean valid = k >= 0 && k < situation.n();
                BorderTracer tracer = situation.make();
                String made = situation.name + ": " + k;
                Check.due(made, tracer.contourKind(k) != BorderTracer.KIND_NONE, valid);
                Check.due(made, tracer.contourParent(k) != BorderTracer.INVALID, valid);
                Check.due(made, tracer.contourStart(k) != -1, valid);
                Check.due(made, tracer.contourLength(k) != 0, valid);
                Check.due(made, tracer.contourArea(k) != 0, valid);
                Check.due(made, tracer.toggleFill(k), valid);
            }
        }
    }
}
