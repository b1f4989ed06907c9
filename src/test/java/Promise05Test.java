/** Promise 5: trace. */
public final class Promise05Test {
    public static void main(String[] args) {
        neverRefused();
        tracedAfterwards();
        clearsTheFillPlane();
        replacesEarlierContours();
        countIsInRange();
        allBackground();
        ordinaryCounts();
        pixelsStay();
        again();
        Check.finish();
    }

    private static void neverRefused() {
        Check.sentence("trace() is never refused.");
        for (Situation situation : Situation.all()) {
            BorderTracer tracer = situation.make();
            Check.due(situation.name + ": trace", tracer.trace(), situation.found);
        }
    }

    private static void tracedAfterwards() {
        Check.sentence("TRACED becomes true");
        for (Situation situation : Situation.all()) {
            BorderTracer tracer = situation.make();
            tracer.trace();
            Check.due(situation.name + ": contourCount", tracer.contourCount(), situation.found);
            Check.due(situation.name + ": fillAll is refused", tracer.fillAll() == BorderTracer.REFUSED, false);
        }
    }

    private static void clearsTheFillPlane() {
        Check.sentence("every fill plane value becomes 0");
        for (Situation situation : Situation.all()) {
            BorderTracer tracer = situation.make();
            tracer.trace();
            Check.due(situation.name, Pictures.filled(tracer, 16, 16).contains("#"), false);
        }
    }

    private static void replacesEarlierContours() {
        Check.sentence("all earlier contours are replaced");
        BorderTracer tracer = Pictures.drawAndTrace(Pictures.NESTED);
        for (int y = 1; y < 7; y++) {
            tracer.setRow(y, 0);
        }
        Check.due("fewer contours", tracer.trace(), 2);
        String fewer = State.of(Pictures.drawAndTrace("###########..#", "..............", "..............",
            "..............", "..............", "..............", ".............."));
        Check.due("as on a new object", State.of(tracer), fewer);
        Check.due("old contour gone", tracer.contourKind(2), BorderTracer.KIND_NONE);
        tracer.setRow(0, 0);
        Check.due("no contours", tracer.trace(), 0);
        Check.due("no contours, traced", tracer.contourCount(), 0);
        for (int y = 0; y < 7; y++) {
            for (int x = 0; x < 14; x++) {
                tracer.setPixel(x, y, Pictures.NESTED[y].charAt(x) == '#' ? 1 : 0);
            }
        }
        Check.due("the first contours again", tracer.trace(), 6);
        String first = State.of(Pictures.drawAndTrace(Pictures.NESTED));
        Check.due("as on a new object with the first", State.of(tracer), first);
    }

    /** Single holes in every second inner pixel, and single pixels: the most that fit of either. */
    private static void countIsInRange() {
        Check.sentence("It answers n, the number of contours, in 0..256");
        BorderTracer holes = new BorderTracer(16, 16);
        BorderTracer pixels = new BorderTracer(16, 16);
        for (int y = 0; y < 16; y++) {
            boolean rim = y == 0 || y == 15;
            holes.setRow(y, rim ? -1 : y % 2 == 0 ? 0xd555 : 0xaaab);
            pixels.setRow(y, y % 2 == 0 ? 0x5555 : 0);
        }
        Check.due("single holes", holes.trace(), 1 + 14 * 14 / 2);
        Check.due("single holes, count", holes.contourCount(), 99);
        Check.due("last hole", holes.contourKind(98), BorderTracer.KIND_HOLE);
        Check.due("single pixels", pixels.trace(), 64);
        Check.due("last pixel's area", pixels.contourArea(63), 1);
        Check.due("full", Pictures.draw(Situation.full(16, 16)).trace(), 1);
        Numbers numbers = new Numbers(5);
        for (int round = 0; round < 2000; round++) {
            BorderTracer tracer = new BorderTracer(16, 16);
            for (int y = 0; y < 16; y++) {
                tracer.setRow(y, numbers.next());
            }
            int n = tracer.trace();
            Check.due("mixed " + round + ": " + n, n >= 0 && n <= BorderTracer.MAX_CONTOURS, true);
            Check.due("mixed " + round, tracer.contourCount(), n);
        }
    }

    private static void allBackground() {
        Check.sentence("(an all-background raster gives 0)");
        for (int size = 0; size < 256; size++) {
            BorderTracer tracer = new BorderTracer(1 + size % 16, 1 + size / 16);
            Check.due("fresh " + size, tracer.trace(), 0);
            tracer.setRow(0, -1);
            tracer.trace();
            tracer.setRow(0, 0);
            Check.due("emptied " + size, tracer.trace(), 0);
        }
    }

    private static void ordinaryCounts() {
        Check.sentence("the contours of the current pixels are formed exactly as the Terms define");
        Check.due("all foreground", Pictures.draw("####", "####").trace(), 1);
        Check.due("one pixel", Pictures.draw("#").trace(), 1);
        Check.due("ring", Pictures.draw(Pictures.RING).trace(), 3);
        Check.due("diamond", Pictures.draw(Pictures.DIAMOND).trace(), 2);
        Check.due("nested", Pictures.draw(Pictures.NESTED).trace(), 6);
        Check.due("higher than wide", Pictures.draw("##", "..", "##", "..", "##").trace(), 3);
        Check.due("wider than high", Pictures.draw("#.#.#", "#.#.#").trace(), 3);
        Check.due("two parts that join below", Pictures.draw("#.#", "#.#", "###").trace(), 1);
        Check.due("hole whose parts join below", Pictures.draw("#####", "#.#.#", "#...#", "#####").trace(), 2);
    }

    private static void pixelsStay() {
        Check.sentence("Pixels do not change.");
        for (Situation situation : Situation.all()) {
            BorderTracer tracer = situation.make();
            tracer.trace();
            String pixels = Pictures.pixels(tracer, situation.width(), situation.height());
            Check.due(situation.name, pixels, Pictures.lines(situation.pixels));
        }
    }

    private static void again() {
        Check.sentence("Calling it again without changing pixels gives the same contours, with the same numbers, "
            + "kinds, parents, key pixels, edges, lengths and areas, and again clears the fill plane.");
        for (Situation situation : Situation.all()) {
            BorderTracer tracer = situation.make();
            tracer.trace();
            String first = State.of(tracer);
            for (int k = 0; k < situation.found; k++) {
                tracer.toggleFill(k);
                Check.due(situation.name + ": trace", tracer.trace(), situation.found);
                Check.due(situation.name + ": toggled and traced", State.of(tracer), first);
            }
            tracer.fillAll();
            tracer.trace();
            tracer.trace();
            Check.due(situation.name + ": filled and traced twice", State.of(tracer), first);
        }
    }
}
