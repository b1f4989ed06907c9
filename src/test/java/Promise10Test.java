/** Promise 10: contourLength. */
public final class Promise10Test {
    private static final ContourAnswers LENGTHS =
        new ContourAnswers("contourLength", BorderTracer::contourLength, 0);

    public static void main(String[] args) {
        Check.sentence("contourLength(k) answers 0 if k is not valid: TRACED false");
        LENGTHS.whileNotTraced();
        Check.sentence("contourLength(k) answers 0 if k is not valid: k negative");
        LENGTHS.forNegativeNumbers();
        Check.sentence("contourLength(k) answers 0 if k is not valid: k >= n");
        LENGTHS.forNumbersTooLarge();
        Check.sentence("It changes nothing.");
        LENGTHS.changesNothing();
        ordinary();
        atLeastFour();
        longBorders();
        Check.finish();
    }

    private static void ordinary() {
        Check.sentence("else LENGTH(k), the number of edges of contour k");
        LENGTHS.due(Pictures.RING, 24, 12, 4);
        LENGTHS.due(Pictures.DIAMOND, 20, 12);
        LENGTHS.due(Pictures.NESTED, 36, 8, 28, 12, 4, 8);
        LENGTHS.due(new String[] {"..."});
        LENGTHS.due(new String[] {"#####", "#.#.#", "#####"}, 16, 4, 4);
        LENGTHS.due(new String[] {"#..", ".#.", "..#"}, 12);
        LENGTHS.due(new String[] {"###", "#.#", "#.#"}, 16);
    }

    private static void atLeastFour() {
        Check.sentence("which is at least 4");
        for (int cell = 0; cell < 256; cell++) {
            BorderTracer pixel = new BorderTracer(16, 16);
            pixel.setPixel(cell % 16, cell / 16, 1);
            pixel.trace();
            Check.due("a single pixel", pixel.contourLength(0), 4);
            BorderTracer hole = Pictures.draw(Situation.full(16, 16));
            hole.setPixel(cell % 16, cell / 16, 0);
            if (hole.trace() == 2) {
                Check.due("a single hole", hole.contourLength(1), 4);
            }
        }
    }

    /** Of full rasters, of single pixels that touch at corners only, of a comb. */
    private static void longBorders() {
        Check.sentence("LENGTH(k), the number of edges of contour k: long borders");
        LENGTHS.due(Situation.full(16, 16), 64);
        LENGTHS.due(Situation.full(16, 1), 34);
        LENGTHS.due(Situation.full(1, 16), 34);
        BorderTracer chequers = new BorderTracer(16, 16);
        for (int y = 0; y < 16; y++) {
            chequers.setRow(y, y % 2 == 0 ? 0x5555 : 0xaaaa);
        }
        chequers.trace();
        // 128 pixels with 4 sides each, of which 98 holes take 4 each.
        Check.due("chequers' outer border", chequers.contourLength(0), 4 * 128 - 4 * 98);
        BorderTracer diagonals = new BorderTracer(16, 16);
        for (int y = 0; y < 16; y++) {
            diagonals.setRow(y, y % 2 == 0 ? 0x5555 : 0x2222);
        }
        diagonals.trace();
        int sum = 0;
        for (int k = 0; k < diagonals.contourCount(); k++) {
            sum += diagonals.contourLength(k);
        }
        // No two foreground pixels share a side, so each has four edges.
        Check.due("diagonals' edges together", sum, 4 * (8 * 8 + 8 * 4));
        BorderTracer comb = new BorderTracer(16, 16);
        for (int y = 0; y < 16; y++) {
            comb.setRow(y, y == 0 ? -1 : 0x5555);
        }
        comb.trace();
        // 136 pixels with 4 sides each, of which 135 pairs share one.
        Check.due("comb's border", comb.contourLength(0), 4 * 136 - 2 * 135);
    }
}
