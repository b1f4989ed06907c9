import java.util.ArrayList;
import java.util.Comparator;
import java.util.HashMap;
import java.util.List;
import java.util.Map;

/**
 * The document's Terms put down as they are read, with none of the program's ways: components by repeated spreading
 * of the least number over a raster with a rim of outer cells, interiors by walking up the parents.
 */
final class Model {
    private static final int[] STEP_X = {0, 1, 0, -1, -1, 1, -1, 1};
    private static final int[] STEP_Y = {-1, 0, 1, 0, -1, -1, 1, 1};

    private static final class Contour {
        boolean hole;
        int region;
        int foreground;
        int background;
        int key;
        int parent;
    }

    private final int width;
    private final int height;
    private final int[][] pixel;
    private final int[][] fill;
    private int[][] component;
    private boolean traced = false;
    private List<Contour> contours = new ArrayList<>();

    Model(int width, int height) {
        this.width = Math.max(1, Math.min(16, width));
        this.height = Math.max(1, Math.min(16, height));
        pixel = new int[this.height][this.width];
        fill = new int[this.height][this.width];
    }

    int width() {
        return width;
    }

    int height() {
        return height;
    }

    boolean setPixel(int x, int y, int value) {
        if (!inside(x, y)) {
            return false;
        }
        pixel[y][x] = value == 0 ? 0 : 1;
        invalidate();
        return true;
    }

    boolean setRow(int y, int bits) {
        if (!inside(0, y)) {
            return false;
        }
        for (int x = 0; x < width; x++) {
            pixel[y][x] = (bits & (1 << x)) == 0 ? 0 : 1;
        }
        invalidate();
        return true;
    }

    int getPixel(int x, int y) {
        return inside(x, y) ? pixel[y][x] : 0;
    }

    int trace() {
        clearFill();
        component = components();
        contours = contours();
        traced = true;
        return contours.size();
    }

    int contourCount() {
        return traced ? contours.size() : -1;
    }

    int contourKind(int k) {
        return !valid(k) ? 0 : contours.get(k).hole ? 2 : 1;
    }

    int contourParent(int k) {
        return valid(k) ? contours.get(k).parent : -2;
    }

    int contourStart(int k) {
        return valid(k) ? contours.get(k).key : -1;
    }

    int contourLength(int k) {
        int length = 0;
        for (int y = 0; y < height; y++) {
            for (int x = 0; x < width; x++) {
                for (int side = 0; side < 4; side++) {
                    length += hasEdge(k, x, y, side) ? 1 : 0;
                }
            }
        }
        return length;
    }

    int contourArea(int k) {
        if (!valid(k)) {
            return 0;
        }
        int count = 0;
        for (int y = 0; y < height; y++) {
            for (int x = 0; x < width; x++) {
                count += inInterior(k, x, y) ? 1 : 0;
            }
        }
        return contours.get(k).hole ? -count : count;
    }

    boolean hasEdge(int k, int x, int y, int side) {
        if (!valid(k) || !inside(x, y) || side < 0 || side > 3) {
            return false;
        }
        Contour contour = contours.get(k);
        return at(x, y) == contour.foreground && at(x + STEP_X[side], y + STEP_Y[side]) == contour.background;
    }

    int contourOf(int x, int y) {
        if (!traced || !inside(x, y)) {
            return -1;
        }
        for (int k = 0; k < contours.size(); k++) {
            if (contours.get(k).region == at(x, y)) {
                return k;
            }
        }
        return -1;
    }

    boolean toggleFill(int k) {
        if (!valid(k)) {
            return false;
        }
        for (int y = 0; y < height; y++) {
            for (int x = 0; x < width; x++) {
                fill[y][x] ^= inInterior(k, x, y) ? 1 : 0;
            }
        }
        return true;
    }

    int fillAll() {
        if (!traced) {
            return -1;
        }
        clearFill();
        for (int k = 0; k < contours.size(); k++) {
            toggleFill(k);
        }
        int filled = 0;
        for (int[] row : fill) {
            for (int value : row) {
                filled += value;
            }
        }
        return filled;
    }

    int getFilled(int x, int y) {
        return inside(x, y) ? fill[y][x] : 0;
    }

    boolean filledEqualsBitmap() {
        for (int y = 0; y < height; y++) {
            for (int x = 0; x < width; x++) {
                if (fill[y][x] != pixel[y][x]) {
                    return false;
                }
            }
        }
        return true;
    }

    private boolean inside(int x, int y) {
        return x >= 0 && x < width && y >= 0 && y < height;
    }

    private boolean valid(int k) {
        return traced && k >= 0 && k < contours.size();
    }

    private void invalidate() {
        traced = false;
        contours = new ArrayList<>();
        clearFill();
    }

    private void clearFill() {
        for (int[] row : fill) {
            java.util.Arrays.fill(row, 0);
        }
    }

    private int at(int x, int y) {
        return component[y + 1][x + 1];
    }

    private boolean inInterior(int k, int x, int y) {
        int j = contourOf(x, y);
        while (j >= 0 && j != k) {
            j = contours.get(j).parent;
        }
        return j == k;
    }

    /** A component's number is the least position of its cells, in a raster widened by one outer cell all round. */
    private int[][] components() {
        int[][] number = new int[height + 2][width + 2];
        for (int y = 0; y < height + 2; y++) {
            for (int x = 0; x < width + 2; x++) {
                number[y][x] = y * (width + 2) + x;
            }
        }
        boolean changed = true;
        while (changed) {
            changed = false;
            for (int y = 0; y < height + 2; y++) {
                for (int x = 0; x < width + 2; x++) {
                    changed |= takeLeast(number, x, y);
                }
            }
        }
        return number;
    }

    private boolean takeLeast(int[][] number, int x, int y) {
        int value = getPixel(x - 1, y - 1);
        boolean changed = false;
        for (int d = 0; d < (value == 1 ? 8 : 4); d++) {
            int nx = x + STEP_X[d];
            int ny = y + STEP_Y[d];
            boolean there = nx >= 0 && nx < width + 2 && ny >= 0 && ny < height + 2;
            if (there && getPixel(nx - 1, ny - 1) == value && number[ny][nx] < number[y][x]) {
                number[y][x] = number[ny][nx];
                changed = true;
            }
        }
        return changed;
    }

    private List<Contour> contours() {
        List<Contour> found = new ArrayList<>();
        Map<Integer, Boolean> seen = new HashMap<>();
        seen.put(component[0][0], true);
        for (int y = 0; y < height; y++) {
            for (int x = 0; x < width; x++) {
                if (seen.put(at(x, y), true) == null) {
                    found.add(contourOfFirstPixel(x, y));
                }
            }
        }
        found.sort(Comparator.comparingInt(contour -> contour.key));
        for (Contour contour : found) {
            contour.parent = numberOfRegion(found, contour.hole ? contour.foreground : contour.background);
        }
        return found;
    }

    private Contour contourOfFirstPixel(int x, int y) {
        Contour contour = new Contour();
        contour.hole = pixel[y][x] == 0;
        contour.region = at(x, y);
        contour.foreground = contour.hole ? at(x - 1, y) : contour.region;
        contour.background = contour.hole ? contour.region : at(x - 1, y);
        contour.key = y * 16 + (contour.hole ? x - 1 : x);
        return contour;
    }

    private static int numberOfRegion(List<Contour> found, int region) {
        for (int k = 0; k < found.size(); k++) {
            if (found.get(k).region == region) {
                return k;
            }
        }
        return -1;
    }
}
