/** The words under "What it is": what the class does in short, and what each constant stands for. */
public final class WhatItIsTest {
    public static void main(String[] args) {
        fedByPixelOrRow();
        traces();
        fills();
        sides();
        stride();
        mostContours();
        kinds();
        parents();
        notTraced();
        noContour();
        refused();
        sidesOfAPixel();
        Check.finish();
    }

    private static void fedByPixelOrRow() {
        Check.sentence("A binary raster of at most 16 x 16 pixels is fed pixel by pixel or row by row.");
        Numbers numbers = new Numbers(30);
        for (int side = 1; side <= 16; side++) {
            BorderTracer byPixel = new BorderTracer(side, 17 - side);
            BorderTracer byRow = new BorderTracer(side, 17 - side);
            for (int y = 0; y < 17 - side; y++) {
                int bits = numbers.next() | numbers.next();
                byRow.setRow(y, bits);
                for (int x = 0; x < side; x++) {
                    byPixel.setPixel(x, y, bits & 1 << x);
                }
            }
            Check.due("drawn", State.of(byRow), State.of(byPixel));
            Check.due("trace", byRow.trace(), byPixel.trace());
            Check.due("traced", State.of(byRow), State.of(byPixel));
        }
        BorderTracer largest = new BorderTracer(17, 17);
        Check.due("pixel 15 15", largest.setPixel(15, 15, 1), true);
        Check.due("pixel 16 15", largest.setPixel(16, 15, 1), false);
        Check.due("pixel 15 16", largest.setPixel(15, 16, 1), false);
        Check.due("row 16", largest.setRow(16, -1), false);
    }

    private static void traces() {
        Check.sentence("trace() finds every outer border and every hole border (border following with nesting), "
            + "numbers them, links each to its parent and records its crack edges, length and signed area.");
        BorderTracer tracer = Pictures.draw(Pictures.RING);
        Check.due("borders", tracer.trace(), 3);
        int[] kinds = {1, 2, 1};
        int[] parents = {-1, 0, 1};
        int[] starts = {17, 33, 51};
        int[] lengths = {24, 12, 4};
        int[] areas = {26, -9, 1};
        for (int k = 0; k < 3; k++) {
            Check.due("kind of " + k, tracer.contourKind(k), kinds[k]);
            Check.due("parent of " + k, tracer.contourParent(k), parents[k]);
            Check.due("start of " + k, tracer.contourStart(k), starts[k]);
            Check.due("length of " + k, tracer.contourLength(k), lengths[k]);
            Check.due("area of " + k, tracer.contourArea(k), areas[k]);
        }
        Check.due("edge of the island", tracer.hasEdge(2, 3, 3, 0), true);
        Check.due("edge of the hole", tracer.hasEdge(1, 1, 2, 1), true);
        Check.due("edge of the ring", tracer.hasEdge(0, 1, 2, 3), true);
    }

    private static void fills() {
        Check.sentence("An even-odd filler writes contour interiors into a second bit plane, the fill plane, either "
            + "one contour at a time or all of them together; the fill plane can be compared with the raster.");
        for (Situation situation : Situation.traced()) {
            BorderTracer oneByOne = situation.make();
            BorderTracer together = situation.make();
            oneByOne.trace();
            for (int k = 0; k < situation.count; k++) {
                Check.due(situation.name + ": equal before " + k, oneByOne.filledEqualsBitmap(), false);
                oneByOne.toggleFill(k);
            }
            together.fillAll();
            Check.due(situation.name + ": both ways", State.of(oneByOne), State.of(together));
            Check.due(situation.name + ": equal at the end", oneByOne.filledEqualsBitmap(), true);
        }
    }

    private static void sides() {
        Check.sentence("MIN_SIDE = 1, MAX_SIDE = 16: the smallest and largest width and height.");
        Check.due("MIN_SIDE", BorderTracer.MIN_SIDE, 1);
        Check.due("MAX_SIDE", BorderTracer.MAX_SIDE, 16);
        Check.due("smallest", areaOf(Integer.MIN_VALUE), BorderTracer.MIN_SIDE * BorderTracer.MIN_SIDE);
        Check.due("largest", areaOf(Integer.MAX_VALUE), BorderTracer.MAX_SIDE * BorderTracer.MAX_SIDE);
    }

    private static int areaOf(int side) {
        BorderTracer tracer = new BorderTracer(side, side);
        for (int y = 0; y < 20; y++) {
            tracer.setRow(y, -1);
        }
        tracer.trace();
        return tracer.contourArea(0);
    }

    private static void stride() {
        Check.sentence("RASTER_STRIDE = 16: the row stride of a raster index.");
        Check.due("RASTER_STRIDE", BorderTracer.RASTER_STRIDE, 16);
        for (int width = 1; width <= 16; width++) {
            BorderTracer tracer = new BorderTracer(width, 4);
            tracer.setPixel(width - 1, 1, 1);
            tracer.setPixel(width - 1, 3, 1);
            tracer.trace();
            int rows = tracer.contourStart(1) - tracer.contourStart(0);
            Check.due("two rows of width " + width, rows, 2 * BorderTracer.RASTER_STRIDE);
        }
    }

    private static void mostContours() {
        Check.sentence("MAX_CONTOURS = 256: an upper bound on the number of contours (n is always in 0..256).");
        Check.due("MAX_CONTOURS", BorderTracer.MAX_CONTOURS, 256);
        Numbers numbers = new Numbers(31);
        for (int round = 0; round < 1000; round++) {
            int n = Rasters.mixed(16, 16, numbers).contourCount();
            Check.due("mixed " + round + ": " + n, n >= 0 && n <= BorderTracer.MAX_CONTOURS, true);
        }
    }

    private static void kinds() {
        Check.sentence("KIND_NONE = 0, KIND_OUTER = 1, KIND_HOLE = 2: answers of contourKind.");
        BorderTracer tracer = Pictures.drawAndTrace("###", "#.#", "###");
        Check.due("outer", tracer.contourKind(0), 1);
        Check.due("hole", tracer.contourKind(1), 2);
        Check.due("none", tracer.contourKind(2), 0);
        Check.due("KIND_NONE", BorderTracer.KIND_NONE, 0);
        Check.due("KIND_OUTER", BorderTracer.KIND_OUTER, 1);
        Check.due("KIND_HOLE", BorderTracer.KIND_HOLE, 2);
    }

    private static void parents() {
        Check.sentence("NO_PARENT = -1, INVALID = -2: special answers of contourParent.");
        BorderTracer tracer = Pictures.drawAndTrace("###", "#.#", "###");
        Check.due("no parent", tracer.contourParent(0), -1);
        Check.due("a parent", tracer.contourParent(1), 0);
        Check.due("not valid", tracer.contourParent(2), -2);
        Check.due("NO_PARENT", BorderTracer.NO_PARENT, -1);
        Check.due("INVALID", BorderTracer.INVALID, -2);
    }

    private static void notTraced() {
        Check.sentence("NOT_TRACED = -1: answer of contourCount when TRACED is false.");
        Check.due("NOT_TRACED", BorderTracer.NOT_TRACED, -1);
        for (Situation situation : Situation.notTraced()) {
            Check.due(situation.name, situation.make().contourCount(), -1);
        }
    }

    private static void noContour() {
        Check.sentence("NO_CONTOUR = -1: answer of contourOf when TRACED is false, (x,y) is not a pixel, or the pixel "
            + "lies in OUTSIDE.");
        Check.due("NO_CONTOUR", BorderTracer.NO_CONTOUR, -1);
        Check.due("not traced", Pictures.draw("#").contourOf(0, 0), -1);
        BorderTracer tracer = Pictures.drawAndTrace("#.");
        Check.due("a pixel of a contour", tracer.contourOf(0, 0), 0);
        Check.due("not a pixel", tracer.contourOf(2, 0), -1);
        Check.due("in OUTSIDE", tracer.contourOf(1, 0), -1);
    }

    private static void refused() {
        Check.sentence("REFUSED = -1: answer of fillAll when refused.");
        Check.due("REFUSED", BorderTracer.REFUSED, -1);
        for (Situation situation : Situation.notTraced()) {
            Check.due(situation.name, situation.make().fillAll(), -1);
        }
    }

    /** One pixel with foreground at one side: the other three sides are edges. */
    private static void sidesOfAPixel() {
        Check.sentence("SIDE_TOP = 0, SIDE_RIGHT = 1, SIDE_BOTTOM = 2, SIDE_LEFT = 3: the four sides of a pixel.");
        Check.due("SIDE_TOP", BorderTracer.SIDE_TOP, 0);
        Check.due("SIDE_RIGHT", BorderTracer.SIDE_RIGHT, 1);
        Check.due("SIDE_BOTTOM", BorderTracer.SIDE_BOTTOM, 2);
        Check.due("SIDE_LEFT", BorderTracer.SIDE_LEFT, 3);
        int[][] joined = {{1, 0}, {2, 1}, {1, 2}, {0, 1}};
        for (int hidden = 0; hidden < 4; hidden++) {
            BorderTracer tracer = new BorderTracer(3, 3);
            tracer.setPixel(1, 1, 1);
            tracer.setPixel(joined[hidden][0], joined[hidden][1], 1);
            tracer.trace();
            for (int side = 0; side < 4; side++) {
                Check.due("side " + side + ", hidden " + hidden, tracer.hasEdge(0, 1, 1, side), side != hidden);
            }
        }
    }
}
