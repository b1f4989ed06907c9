import java.util.ArrayList;
import java.util.List;
import java.util.TreeSet;

/** Arguments that name nothing: just past the ends, round the row stride, and at the ends of int. */
final class Wrong {
    static final int[] EXTREMES = {
        Integer.MIN_VALUE, Integer.MIN_VALUE + 1, -65536, -1, 0, 1, 15, 16, 65536, Integer.MAX_VALUE - 1,
        Integer.MAX_VALUE
    };

    static final int[] SIDES = {
        Integer.MIN_VALUE, Integer.MIN_VALUE + 3, -65536, -256, -4, -3, -2, -1, 4, 5, 6, 7, 8, 16, 256, 65536, 1 << 30,
        Integer.MAX_VALUE
    };

    private static final int[] FAR = {
        Integer.MIN_VALUE, Integer.MIN_VALUE + 1, -(1 << 28), -65536, -257, -256, -17, -16, -15, -2, -1, 16, 17, 31,
        32, 255, 256, 257, 65536, 1 << 28, Integer.MAX_VALUE - 1, Integer.MAX_VALUE
    };

    /** No pixels of any raster, though y*16+x, with int's wrap-around, is the raster index of one. */
    private static final int[][] WRAPPED = {
        {16, -1}, {17, -1}, {32, -2}, {256, -16}, {-16, 1}, {-15, 1}, {-1, 1}, {-32, 2}, {-240, 15}, {16, 0},
        {0, 1 << 28}, {0, -(1 << 28)}, {0, Integer.MIN_VALUE}, {0, (1 << 28) + 1}, {16, Integer.MAX_VALUE},
        {Integer.MIN_VALUE, 1 << 27}
    };

    private Wrong() {
    }

    /** For a raster of that many columns (or rows): no x (or y) of a pixel. */
    static int[] coordinates(int length) {
        TreeSet<Integer> wrong = new TreeSet<>();
        for (int far : FAR) {
            wrong.add(far);
        }
        for (int past = length; past <= 16; past++) {
            wrong.add(past);
        }
        return wrong.stream().mapToInt(Integer::intValue).toArray();
    }

    static int[] negativeNumbers() {
        return new int[] {Integer.MIN_VALUE, Integer.MIN_VALUE + 1, -65536, -257, -256, -255, -3, -2, -1};
    }

    /** Contour numbers from n on, where n is at most 255. */
    static int[] numbersFrom(int n) {
        return new int[] {
            n, n + 1, n + 2, 255, 256, 257, 511, 65535, 65536, 1 << 30, Integer.MAX_VALUE - 1, Integer.MAX_VALUE
        };
    }

    /** The two together. */
    static int[] numbers(int n) {
        List<Integer> wrong = new ArrayList<>();
        for (int k : negativeNumbers()) {
            wrong.add(k);
        }
        for (int k : numbersFrom(n)) {
            wrong.add(k);
        }
        return wrong.stream().mapToInt(Integer::intValue).toArray();
    }

    /** Points that are no pixels of a raster of that size. */
    static int[][] points(int width, int height) {
        List<int[]> wrong = new ArrayList<>(List.of(WRAPPED));
        for (int x : coordinates(width)) {
            wrong.add(new int[] {x, 0});
            wrong.add(new int[] {x, height - 1});
            wrong.add(new int[] {x, x});
        }
        for (int y : coordinates(height)) {
            wrong.add(new int[] {0, y});
            wrong.add(new int[] {width - 1, y});
            wrong.add(new int[] {width, y});
        }
        return wrong.toArray(new int[0][]);
    }
}
