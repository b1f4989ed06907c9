import java.util.HashSet;
import java.util.Set;

/** The words under "Terms" on contours: which there are, their regions, parents, edges and interiors. */
public final class ContourTermsTest {
    /** Rings in rings: the contours 0 to 3 lie one in the other, each one pixel further in. */
    private static final String[] TARGET = {
        "#######",
        "#.....#",
        "#.###.#",
        "#.#.#.#",
        "#.###.#",
        "#.....#",
        "#######"
    };

    private interface Look {
        void at(String made, BorderTracer tracer, int k);
    }

    public static void main(String[] args) {
        contoursOnlyWhileTraced();
        oneContourEach();
        firstPixels();
        keyPixels();
        keyPixelsAreForeground();
        keyPixelsDiffer();
        numberedByKeyPixels();
        regions();
        foregroundOfContours();
        backgroundOfContours();
        leftOfTheFirstPixel();
        parentsOfOuterContours();
        parentsOfHoles();
        children();
        descendants();
        edges();
        closedBorders();
        lengths();
        interiors();
        areas();
        areasInsideTheBorders();
        Check.finish();
    }

    /** Looks at every contour of every small raster and of some of the largest size. */
    private static void everyContour(Look look) {
        for (int bits = 0; bits < Rasters.FOUR_BY_FOUR; bits++) {
            contours("4 x 4 raster " + bits, Rasters.fourByFour(bits), look);
        }
        Numbers numbers = new Numbers(20);
        for (int round = 0; round < 20; round++) {
            contours("mixed " + round, Rasters.mixed(16, 16, numbers), look);
        }
        contours("rings", Pictures.drawAndTrace(TARGET), look);
        contours("nested", Pictures.drawAndTrace(Pictures.NESTED), look);
    }

    private static void contours(String made, BorderTracer tracer, Look look) {
        for (int k = 0; k < tracer.contourCount(); k++) {
            look.at(made + ": " + k, tracer, k);
        }
    }

    private static boolean isHole(BorderTracer tracer, int k) {
        return tracer.contourKind(k) == BorderTracer.KIND_HOLE;
    }

    private static void contoursOnlyWhileTraced() {
        Check.sentence("CONTOURS exist only while TRACED is true");
        for (Situation situation : Situation.notTraced()) {
            Invalidated.look(situation.name, situation.make());
        }
        for (Situation situation : Situation.traced()) {
            BorderTracer tracer = situation.make();
            for (int k = 0; k < situation.count; k++) {
                Check.due(situation.name + ": " + k, tracer.contourKind(k) != BorderTracer.KIND_NONE, true);
            }
        }
    }

    private static void oneContourEach() {
        Check.sentence("one OUTER contour for each foreground component C and one HOLE contour for each hole B, no "
            + "others");
        Check.due("none", Pictures.draw("...", "...").trace(), 0);
        Check.due("diagonal foreground is one", Pictures.draw("#..", ".#.", "..#").trace(), 1);
        Check.due("other diagonal too", Pictures.draw("..#", ".#.", "#..").trace(), 1);
        Check.due("diagonal background is two", Pictures.draw("####", "#.##", "##.#", "####").trace(), 3);
        Check.due("other diagonal too", Pictures.draw("####", "##.#", "#.##", "####").trace(), 3);
        Check.due("a bay at the rim is no hole", Pictures.draw("###", "#.#", "#.#").trace(), 1);
        Check.due("background at each rim", Pictures.draw("#.#", "...", "#.#").trace(), 4);
        Check.due("a corner does not open a hole", Pictures.draw(".##", "#.#", "###").trace(), 2);
        Check.due("parts that join late", Pictures.draw("#.#.#", "#.#.#", "#####").trace(), 1);
        Check.due("hole's parts that join late", Pictures.draw("#######", "#.#.#.#", "#.....#", "#######").trace(), 2);
    }

    private static void firstPixels() {
        Check.sentence("FIRST PIXEL of a component: its earliest pixel.");
        start("the lower part lies further left", 3, 0, "...#", "..#.", ".#..", "#...");
        start("the left part is lower", 2, 0, "..#", "#.#", "###");
        start("the left of two in a row", 1, 0, ".#.#", ".###");
        start("the last pixel", 2 * 16 + 2, 0, "...", "...", "..#");
        start("a hole whose lower part lies further left", 16 + 2, 1, "#####", "###.#", "#...#", "#####");
        start("a hole, the left of two in a row", 16, 1, "#####", "#.#.#", "#...#", "#####");
    }

    private static void start(String made, int want, int k, String... picture) {
        Check.due(made, Pictures.drawAndTrace(picture).contourStart(k), want);
    }

    private static void keyPixels() {
        Check.sentence("KEY PIXEL: of C's contour, the first pixel of C; of B's contour, the pixel (x-1,y) where (x,y) "
            + "is the first pixel of B");
        everyContour((made, tracer, k) -> {
            int first = firstPixel(tracer, k);
            Check.due(made + " key", tracer.contourStart(k), isHole(tracer, k) ? first - 1 : first);
        });
    }

    private static int firstPixel(BorderTracer tracer, int k) {
        int first = 0;
        while (first < 256 && tracer.contourOf(first % 16, first / 16) != k) {
            first++;
        }
        return first;
    }

    private static void keyPixelsAreForeground() {
        Check.sentence("(it is always a foreground pixel)");
        everyContour((made, tracer, k) -> {
            int start = tracer.contourStart(k);
            Check.due(made + " key", tracer.getPixel(start % 16, start / 16), 1);
        });
    }

    private static void keyPixelsDiffer() {
        Check.sentence("No two contours have the same key pixel.");
        for (int bits = 0; bits < Rasters.FOUR_BY_FOUR; bits++) {
            BorderTracer tracer = Rasters.fourByFour(bits);
            Set<Integer> keys = new HashSet<>();
            for (int k = 0; k < tracer.contourCount(); k++) {
                Check.due("raster " + bits + " key of " + k + " is new", keys.add(tracer.contourStart(k)), true);
            }
        }
    }

    private static void numberedByKeyPixels() {
        Check.sentence("Contours are numbered 0..n-1 by increasing raster index of their key pixels.");
        everyContour((made, tracer, k) -> {
            boolean later = k == 0 || tracer.contourStart(k) > tracer.contourStart(k - 1);
            Check.due(made + " starts later", later, true);
        });
    }

    /** A region has pixels of one value, and none of them has a neighbour of that value in another region. */
    private static void regions() {
        Check.sentence("REGION R(k) is its C or its B.");
        everyContour((made, tracer, k) -> {
            boolean whole = true;
            for (int cell = 0; cell < 256; cell++) {
                whole &= tracer.contourOf(cell % 16, cell / 16) != k || fits(tracer, k, cell % 16, cell / 16);
            }
            Check.due(made + " region is whole", whole, true);
        });
    }

    private static boolean fits(BorderTracer tracer, int k, int x, int y) {
        int value = isHole(tracer, k) ? 0 : 1;
        boolean fits = tracer.getPixel(x, y) == value;
        for (int step = 0; step < 9; step++) {
            int otherX = x + step % 3 - 1;
            int otherY = y + step / 3 - 1;
            // The odd steps are those to 4-neighbours.
            if ((value == 1 || step % 2 == 1) && tracer.getPixel(otherX, otherY) == value) {
                fits &= tracer.contourOf(otherX, otherY) == k;
            }
        }
        return fits;
    }

    private static void foregroundOfContours() {
        Check.sentence("FG(k): for an outer contour its C; for a hole contour the foreground component holding its key "
            + "pixel.");
        everyContour((made, tracer, k) -> {
            boolean all = true;
            for (int triple = 0; triple < 1024; triple++) {
                boolean in = tracer.contourOf(x(triple), y(triple)) == foreground(tracer, k);
                all &= in || !isEdge(tracer, k, triple);
            }
            Check.due(made + " edges are of pixels of FG", all, true);
        });
    }

    private static void backgroundOfContours() {
        Check.sentence("BG(k): for a hole contour its B; for an outer contour the background component holding the "
            + "cell (x-1,y), where (x,y) is the first pixel of C");
        everyContour((made, tracer, k) -> {
            boolean all = true;
            for (int triple = 0; triple < 1024; triple++) {
                boolean in = tracer.contourOf(beyondX(triple), beyondY(triple)) == background(tracer, k);
                all &= in || !isEdge(tracer, k, triple);
            }
            Check.due(made + " edges lead into BG", all, true);
        });
    }

    /** The number of the contour whose region is FG(k). */
    private static int foreground(BorderTracer tracer, int k) {
        int key = tracer.contourStart(k);
        return tracer.contourOf(key % 16, key / 16);
    }

    /** The number of the contour whose region is BG(k), or -1 for OUTSIDE. */
    private static int background(BorderTracer tracer, int k) {
        int key = tracer.contourStart(k);
        return isHole(tracer, k) ? k : tracer.contourOf(key % 16 - 1, key / 16);
    }

    private static int x(int triple) {
        return triple / 4 % 16;
    }

    private static int y(int triple) {
        return triple / 64;
    }

    private static int beyondX(int triple) {
        return x(triple) + (triple % 4 == 1 ? 1 : triple % 4 == 3 ? -1 : 0);
    }

    private static int beyondY(int triple) {
        return y(triple) + (triple % 4 == 2 ? 1 : triple % 4 == 0 ? -1 : 0);
    }

    private static boolean isEdge(BorderTracer tracer, int k, int triple) {
        return tracer.hasEdge(k, x(triple), y(triple), triple % 4);
    }

    private static void leftOfTheFirstPixel() {
        Check.sentence("(that cell is always background, possibly an outer cell)");
        for (int y = 0; y < 16; y++) {
            BorderTracer tracer = new BorderTracer(16, 16);
            // The pixels before this one in raster order are at the other end of the row above.
            tracer.setPixel(0, y, 1);
            tracer.setPixel(15, y, 1);
            Check.due("row " + y, tracer.trace(), 2);
            Check.due("row " + y + " first column", tracer.contourParent(0), BorderTracer.NO_PARENT);
            Check.due("row " + y + " last column", tracer.contourParent(1), BorderTracer.NO_PARENT);
            Check.due("row " + y + " left edge", tracer.hasEdge(0, 0, y, BorderTracer.SIDE_LEFT), true);
        }
        BorderTracer island = Pictures.drawAndTrace("#####", "#...#", "#.#.#", "#...#", "#####");
        Check.due("the cell lies in a hole", island.contourParent(2), 1);
        // A hole that reaches the column before the last, and a component at the left rim right after it.
        BorderTracer wrapped = Pictures.drawAndTrace("....############", "....#..........#", "#...############");
        Check.due("wrapped", wrapped.contourCount(), 3);
        Check.due("hole's parent", wrapped.contourParent(1), 0);
        Check.due("left rim's parent", wrapped.contourParent(2), BorderTracer.NO_PARENT);
    }

    private static void parentsOfOuterContours() {
        Check.sentence("PARENT of an outer contour k: none if BG(k) is OUTSIDE, else the hole contour whose region is "
            + "BG(k).");
        everyContour((made, tracer, k) -> {
            if (!isHole(tracer, k)) {
                Check.due(made + " parent", tracer.contourParent(k), background(tracer, k));
            }
        });
    }

    private static void parentsOfHoles() {
        Check.sentence("PARENT of a hole contour k: the outer contour whose region is FG(k).");
        everyContour((made, tracer, k) -> {
            if (isHole(tracer, k)) {
                Check.due(made + " parent", tracer.contourParent(k), foreground(tracer, k));
            }
        });
    }

    private static void children() {
        Check.sentence("CHILDREN of k: the contours whose parent is k.");
        BorderTracer tracer = Pictures.drawAndTrace(Pictures.NESTED);
        String[] due = {"2 ", "", "3 5 ", "4 ", "", ""};
        for (int k = 0; k < due.length; k++) {
            StringBuilder children = new StringBuilder();
            for (int j = 0; j < tracer.contourCount(); j++) {
                children.append(tracer.contourParent(j) == k ? j + " " : "");
            }
            Check.due("children of " + k, children.toString(), due[k]);
        }
    }

    private static void descendants() {
        Check.sentence("DESCENDANTS of k: its children, their children, and so on (never k itself).");
        BorderTracer tracer = Pictures.drawAndTrace(TARGET);
        int[] due = {49, -25, 9, -1};
        for (int k = 0; k < 4; k++) {
            Check.due("area of " + k, tracer.contourArea(k), due[k]);
        }
    }

    private static void edges() {
        Check.sentence("EDGES of k: the pairs (p,s), p a pixel of FG(k) and s a side, such that the side-s 4-neighbour "
            + "of p is in BG(k).");
        everyContour((made, tracer, k) -> {
            int wrong = 0;
            for (int triple = 0; triple < 1024; triple++) {
                boolean near = tracer.contourOf(x(triple), y(triple)) == foreground(tracer, k);
                boolean far = tracer.contourOf(beyondX(triple), beyondY(triple)) == background(tracer, k);
                wrong += isEdge(tracer, k, triple) == (near && far) ? 0 : 1;
            }
            Check.due(made + " wrong edges", wrong, 0);
        });
    }

    private static void closedBorders() {
        Check.sentence("Each is the unit crack between those two cells; together they form the closed crack-edge "
            + "border of k.");
        everyContour((made, tracer, k) -> Check.due(made + " way round", wayRound(tracer, k), tracer.contourLength(k)));
    }

    /** The number of edges on the way along the border from its first edge back to it, or -1 if there is none. */
    private static int wayRound(BorderTracer tracer, int k) {
        int first = 0;
        while (first < 1024 && !isEdge(tracer, k, first)) {
            first++;
        }
        int edge = first;
        for (int steps = 1; steps <= 1024; steps++) {
            edge = nextEdge(tracer, k, edge);
            if (edge == first || edge < 0) {
                return edge < 0 ? -1 : steps;
            }
        }
        return -1;
    }

    /** With the foreground at the right hand: left if there is an edge, since corners join the foreground. */
    private static int nextEdge(BorderTracer tracer, int k, int edge) {
        int side = edge % 4;
        int cornerX = x(edge) + (side == 0 || side == 1 ? 1 : 0);
        int cornerY = y(edge) + (side == 1 || side == 2 ? 1 : 0);
        for (int turn = 3; turn <= 5; turn++) {
            int next = (side + turn) % 4;
            int pixelX = cornerX - (next == 1 || next == 2 ? 1 : 0);
            int pixelY = cornerY - (next == 2 || next == 3 ? 1 : 0);
            if (tracer.hasEdge(k, pixelX, pixelY, next)) {
                return pixelY * 64 + pixelX * 4 + next;
            }
        }
        return -1;
    }

    private static void lengths() {
        Check.sentence("LENGTH(k): the number of edges of k.");
        everyContour((made, tracer, k) -> {
            int edges = 0;
            for (int triple = 0; triple < 1024; triple++) {
                edges += isEdge(tracer, k, triple) ? 1 : 0;
            }
            Check.due(made + " length", tracer.contourLength(k), edges);
        });
    }

    private static void interiors() {
        Check.sentence("INTERIOR(k): the pixels that lie in R(k) or in R(j) for some descendant j of k.");
        BorderTracer tracer = Pictures.drawAndTrace(TARGET);
        for (int k = 0; k < 4; k++) {
            tracer.toggleFill(k);
            for (int cell = 0; cell < 49; cell++) {
                int depth = Math.min(Math.min(cell % 7, cell / 7), Math.min(6 - cell % 7, 6 - cell / 7));
                int want = depth >= k ? 1 : 0;
                Check.due("interior of " + k + ": " + cell, tracer.getFilled(cell % 7, cell / 7), want);
            }
            tracer.toggleFill(k);
        }
        // Interiors of contours side by side have nothing in common.
        BorderTracer beside = Pictures.drawAndTrace("###.###", "#.#.#.#", "###.###");
        beside.toggleFill(0);
        String left = Pictures.lines("###....", "###....", "###....");
        Check.due("the left one", Pictures.filled(beside, 7, 3), left);
    }

    private static void areas() {
        Check.sentence("AREA(k): the number of pixels in INTERIOR(k) for an outer contour, that number negated for a "
            + "hole contour");
        everyContour((made, tracer, k) -> {
            tracer.toggleFill(k);
            int interior = 0;
            for (int cell = 0; cell < 256; cell++) {
                interior += tracer.getFilled(cell % 16, cell / 16);
            }
            tracer.toggleFill(k);
            Check.due(made + " area", tracer.contourArea(k), isHole(tracer, k) ? -interior : interior);
        });
    }

    /** By the upright edges alone: each right side has all that lies left of it, each left side takes it away. */
    private static void areasInsideTheBorders() {
        Check.sentence("(the signed area inside the crack border, outer borders positive, hole borders negative)");
        everyContour((made, tracer, k) -> {
            int area = 0;
            for (int cell = 0; cell < 256; cell++) {
                int x = cell % 16;
                area += tracer.hasEdge(k, x, cell / 16, BorderTracer.SIDE_RIGHT) ? x + 1 : 0;
                area -= tracer.hasEdge(k, x, cell / 16, BorderTracer.SIDE_LEFT) ? x : 0;
            }
            Check.due(made + " area inside the border", tracer.contourArea(k), area);
        });
    }
}
