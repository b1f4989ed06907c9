/**
 * Traces the borders of a binary raster of at most 16 x 16 pixels, with their nesting, and fills contours.
 *
 * <p>Every pixel is labelled with the number of the contour whose region holds it. Since the two sides of a border
 * are the region of the contour and the region of its parent, these labels and the parents answer everything.
 */
public final class BorderTracer {
    public static final int MIN_SIDE = 1;
    public static final int MAX_SIDE = 16;
    public static final int RASTER_STRIDE = 16;
    public static final int MAX_CONTOURS = 256;
    public static final int KIND_NONE = 0;
    public static final int KIND_OUTER = 1;
    public static final int KIND_HOLE = 2;
    public static final int NO_PARENT = -1;
    public static final int INVALID = -2;
    public static final int NOT_TRACED = -1;
    public static final int NO_CONTOUR = -1;
    public static final int REFUSED = -1;
    public static final int SIDE_TOP = 0;
    public static final int SIDE_RIGHT = 1;
    public static final int SIDE_BOTTOM = 2;
    public static final int SIDE_LEFT = 3;

    private static final int CELLS = 256;
    private static final int NO_START = -1;

    // The sides 0..3 are directions too; these four make up the rest of the 8-neighbours.
    private static final int TOP_LEFT = 4;
    private static final int TOP_RIGHT = 5;
    private static final int BOTTOM_LEFT = 6;
    private static final int BOTTOM_RIGHT = 7;
    private static final int SIDES = 4;
    private static final int DIRECTIONS = 8;

    // The label of OUTSIDE has the value of NO_CONTOUR and NO_PARENT, so a label is an answer and a parent as it is.
    private static final int OUTSIDE = -1;
    private static final int UNLABELLED = -2;

    private final int width;
    private final int height;
    private final int[] pixels = new int[CELLS];
    private final int[] fill = new int[CELLS];
    private final int[] labels = new int[CELLS];
    private final int[] queue = new int[CELLS];

    private final int[] kinds = new int[MAX_CONTOURS];
    private final int[] parents = new int[MAX_CONTOURS];
    private final int[] starts = new int[MAX_CONTOURS];
    private final int[] lengths = new int[MAX_CONTOURS];
    private final int[] areas = new int[MAX_CONTOURS];
    private final boolean[] inInterior = new boolean[MAX_CONTOURS];

    private boolean traced = false;
    // Stays 0 while not traced, so that no contour number is valid then.
    private int total = 0;

    public BorderTracer(int width, int height) {
        this.width = clampSide(width);
        this.height = clampSide(height);
    }

    public boolean setPixel(int x, int y, int value) {
        if (!isPixel(x, y)) {
            return false;
        }
        pixels[rasterIndex(x, y)] = value != 0 ? 1 : 0;
        invalidate();
        return true;
    }

    public boolean setRow(int y, int bits) {
        if (y < 0 || y >= height) {
            return false;
        }
        for (int x = 0; x < width; x++) {
            pixels[rasterIndex(x, y)] = (bits >>> x) & 1;
        }
        invalidate();
        return true;
    }

    public int getPixel(int x, int y) {
        return isPixel(x, y) ? pixels[rasterIndex(x, y)] : 0;
    }

    public int trace() {
        clearFill();
        clearLabels();
        total = 0;
        labelOutside();
        for (int y = 0; y < height; y++) {
            for (int x = 0; x < width; x++) {
                formContoursWithKey(x, y);
            }
        }
        countEdges();
        sumAreas();
        traced = true;
        return total;
    }

    public int contourCount() {
        return traced ? total : NOT_TRACED;
    }

    public int contourKind(int k) {
        return isContour(k) ? kinds[k] : KIND_NONE;
    }

    public int contourParent(int k) {
        return isContour(k) ? parents[k] : INVALID;
    }

    public int contourStart(int k) {
        return isContour(k) ? starts[k] : NO_START;
    }

    public int contourLength(int k) {
        return isContour(k) ? lengths[k] : 0;
    }

    public int contourArea(int k) {
        return isContour(k) ? areas[k] : 0;
    }

    public boolean hasEdge(int k, int x, int y, int side) {
        if (!isContour(k) || !isPixel(x, y) || side < 0 || side >= SIDES) {
            return false;
        }
        int near = labels[rasterIndex(x, y)];
        int far = labelBeyond(x, y, side);
        return isBorder(k, near, far);
    }

    public int contourOf(int x, int y) {
        return traced ? labelAt(x, y) : NO_CONTOUR;
    }

    public boolean toggleFill(int k) {
        if (!isContour(k)) {
            return false;
        }
        toggleInterior(k);
        return true;
    }

    public int fillAll() {
        if (!traced) {
            return REFUSED;
        }
        clearFill();
        for (int k = 0; k < total; k++) {
            toggleInterior(k);
        }
        return countFilled();
    }

    public int getFilled(int x, int y) {
        return isPixel(x, y) ? fill[rasterIndex(x, y)] : 0;
    }

    public boolean filledEqualsBitmap() {
        for (int cell = 0; cell < CELLS; cell++) {
            if (fill[cell] != pixels[cell]) {
                return false;
            }
        }
        return true;
    }

    private static int clampSide(int side) {
        if (side < MIN_SIDE) {
            return MIN_SIDE;
        }
        return side > MAX_SIDE ? MAX_SIDE : side;
    }

    private static int rasterIndex(int x, int y) {
        return y * RASTER_STRIDE + x;
    }

    private static int stepX(int direction) {
        switch (direction) {
            case SIDE_RIGHT:
            case TOP_RIGHT:
            case BOTTOM_RIGHT:
                return 1;
            case SIDE_LEFT:
            case TOP_LEFT:
            case BOTTOM_LEFT:
                return -1;
            default:
                return 0;
        }
    }

    private static int stepY(int direction) {
        switch (direction) {
            case SIDE_BOTTOM:
            case BOTTOM_LEFT:
            case BOTTOM_RIGHT:
                return 1;
            case SIDE_TOP:
            case TOP_LEFT:
            case TOP_RIGHT:
                return -1;
            default:
                return 0;
        }
    }

    private boolean isPixel(int x, int y) {
        return x >= 0 && x < width && y >= 0 && y < height;
    }

    private boolean isContour(int k) {
        return k >= 0 && k < total;
    }

    private void invalidate() {
        traced = false;
        total = 0;
        clearFill();
    }

    private void clearFill() {
        for (int cell = 0; cell < CELLS; cell++) {
            fill[cell] = 0;
        }
    }

    private void clearLabels() {
        for (int cell = 0; cell < CELLS; cell++) {
            labels[cell] = UNLABELLED;
        }
    }

    private void labelOutside() {
        for (int y = 0; y < height; y++) {
            for (int x = 0; x < width; x++) {
                if (isOnRim(x, y) && isUnlabelled(x, y, 0)) {
                    labelComponent(x, y, OUTSIDE);
                }
            }
        }
    }

    private boolean isOnRim(int x, int y) {
        return x == 0 || x == width - 1 || y == 0 || y == height - 1;
    }

    /**
     * Visited in raster order, each pixel is the key of what is still unlabelled here: an earlier pixel of the same
     * component would have labelled it. So the contours come in the order of their numbers, parents before children.
     */
    private void formContoursWithKey(int x, int y) {
        if (pixels[rasterIndex(x, y)] == 0) {
            return;
        }
        if (isUnlabelled(x, y, 1)) {
            int k = addContour(KIND_OUTER, x, y);
            parents[k] = labelAt(x - 1, y);
            labelComponent(x, y, k);
        }
        if (isUnlabelled(x + 1, y, 0)) {
            int k = addContour(KIND_HOLE, x, y);
            parents[k] = labelAt(x, y);
            labelComponent(x + 1, y, k);
        }
    }

    private int addContour(int kind, int keyX, int keyY) {
        // Never full here, since no two contours share a key pixel; the look keeps the index safe all the same.
        int k = total < MAX_CONTOURS ? total : MAX_CONTOURS - 1;
        kinds[k] = kind;
        starts[k] = rasterIndex(keyX, keyY);
        lengths[k] = 0;
        areas[k] = 0;
        total = k + 1;
        return k;
    }

    private boolean isUnlabelled(int x, int y, int value) {
        if (!isPixel(x, y)) {
            return false;
        }
        int cell = rasterIndex(x, y);
        return pixels[cell] == value && labels[cell] == UNLABELLED;
    }

    private void labelComponent(int firstX, int firstY, int label) {
        int first = rasterIndex(firstX, firstY);
        int value = pixels[first];
        int directions = value == 1 ? DIRECTIONS : SIDES;
        labels[first] = label;
        queue[0] = first;
        int queued = 1;
        for (int taken = 0; taken < CELLS && taken < queued; taken++) {
            for (int direction = 0; direction < directions; direction++) {
                int x = queue[taken] % RASTER_STRIDE + stepX(direction);
                int y = queue[taken] / RASTER_STRIDE + stepY(direction);
                // A cell is labelled as it joins the queue, so it joins once and the queue never overflows.
                if (queued < CELLS && isUnlabelled(x, y, value)) {
                    queue[queued] = rasterIndex(x, y);
                    labels[queue[queued]] = label;
                    queued++;
                }
            }
        }
    }

    private int labelAt(int x, int y) {
        return isPixel(x, y) ? labels[rasterIndex(x, y)] : OUTSIDE;
    }

    private int labelBeyond(int x, int y, int side) {
        int beyondX = x + stepX(side);
        int beyondY = y + stepY(side);
        return labelAt(beyondX, beyondY);
    }

    /** FG(k) and BG(k) are the regions of k and its parent; which is which depends on the kind. */
    private boolean isBorder(int k, int near, int far) {
        if (kinds[k] == KIND_OUTER) {
            return near == k && far == parents[k];
        }
        return near == parents[k] && far == k;
    }

    private void countEdges() {
        for (int y = 0; y < height; y++) {
            for (int x = 0; x < width; x++) {
                int near = labels[rasterIndex(x, y)];
                for (int side = 0; side < SIDES; side++) {
                    int far = labelBeyond(x, y, side);
                    countEdge(near, far);
                }
            }
        }
    }

    /** The crack can only be on the border of one of the two regions that it parts. */
    private void countEdge(int near, int far) {
        if (isContour(near) && isBorder(near, near, far)) {
            lengths[near]++;
        }
        if (isContour(far) && isBorder(far, near, far)) {
            lengths[far]++;
        }
    }

    private void sumAreas() {
        for (int cell = 0; cell < CELLS; cell++) {
            if (isContour(labels[cell])) {
                areas[labels[cell]]++;
            }
        }
        // Children have greater numbers than their parent: going down, each area is whole before it is handed on.
        for (int k = total - 1; k >= 0; k--) {
            if (isContour(parents[k])) {
                areas[parents[k]] += areas[k];
            }
            if (kinds[k] == KIND_HOLE) {
                areas[k] = -areas[k];
            }
        }
    }

    private void toggleInterior(int k) {
        markInterior(k);
        for (int cell = 0; cell < CELLS; cell++) {
            if (isContour(labels[cell]) && inInterior[labels[cell]]) {
                fill[cell] = 1 - fill[cell];
            }
        }
    }

    private void markInterior(int k) {
        // Parents have smaller numbers than their children, so the mark of the parent is already this one's.
        for (int j = 0; j < total; j++) {
            inInterior[j] = j == k || (isContour(parents[j]) && inInterior[parents[j]]);
        }
    }

    private int countFilled() {
        int filled = 0;
        for (int cell = 0; cell < CELLS; cell++) {
            filled += fill[cell];
        }
        return filled;
    }
}
