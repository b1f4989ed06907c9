/** Promise 5: trace. */
public final class Promise05Test {
    public static void main(String[] args) {
        counts();
        again();
        replacesEarlierContours();
        Check.finish();
    }

    private static void counts() {
        Check.due("all background", Pictures.draw("....", "....").trace(), 0);
        Check.due("all foreground", Pictures.draw("####", "####").trace(), 1);
        Check.due("one pixel", Pictures.draw("#").trace(), 1);
        Check.due("diagonal foreground is one", Pictures.draw("#..", ".#.", "..#").trace(), 1);
        Check.due("other diagonal too", Pictures.draw("..#", ".#.", "#..").trace(), 1);
        Check.due("diagonal background is two", Pictures.draw("####", "#.##", "##.#", "####").trace(), 3);
        Check.due("a bay at the rim is no hole", Pictures.draw("###", "#.#", "#.#").trace(), 1);
        Check.due("a bay at the top", Pictures.draw("##.##", "#...#", "#####").trace(), 1);
        Check.due("a bay at the left", Pictures.draw("#####", "...##", "#####").trace(), 1);
        Check.due("a bay at the right", Pictures.draw("#####", "##...", "#####").trace(), 1);
        Check.due("a bay at the bottom", Pictures.draw("#####", "#...#", "##.##").trace(), 1);
        Check.due("high with a bay at the right", Pictures.draw("###", "###", "#..", "###", "###").trace(), 1);
        Check.due("high with a bay at the bottom", Pictures.draw("###", "###", "###", "#.#", "#.#").trace(), 1);
        Check.due("background at each rim", Pictures.draw("#.#", "...", "#.#").trace(), 4);
        Check.due("a corner does not open a hole", Pictures.draw(".##", "#.#", "###").trace(), 2);
        Check.due("ring", Pictures.draw(Pictures.RING).trace(), 3);
        Check.due("diamond", Pictures.draw(Pictures.DIAMOND).trace(), 2);
        Check.due("nested", Pictures.draw(Pictures.NESTED).trace(), 6);
        Check.due("two parts that join below", Pictures.draw("#.#", "#.#", "###").trace(), 1);
        Check.due("hole whose parts join below", Pictures.draw("#####", "#.#.#", "#...#", "#####").trace(), 2);
    }

    private static void again() {
        BorderTracer tracer = Pictures.draw(Pictures.NESTED);
        tracer.trace();
        String first = Pictures.state(tracer, 14, 7);
        tracer.toggleFill(2);
        Check.due("trace again", tracer.trace(), 6);
        Check.due("same contours, fill plane clear", Pictures.state(tracer, 14, 7).equals(first), true);
        tracer.fillAll();
        Check.due("trace after fillAll", tracer.trace(), 6);
        Check.due("fill plane empty", Pictures.filled(tracer, 14, 7).contains("#"), false);
        Check.due("traced", tracer.contourCount(), 6);
    }

    private static void replacesEarlierContours() {
        BorderTracer tracer = Pictures.drawAndTrace(Pictures.NESTED);
        for (int y = 1; y < 7; y++) {
            tracer.setRow(y, 0);
        }
        Check.due("fewer contours", tracer.trace(), 2);
        Check.due("old contour gone", tracer.contourKind(2), BorderTracer.KIND_NONE);
        Check.due("length anew", tracer.contourLength(0), 24);
        Check.due("area anew", tracer.contourArea(0), 11);
        tracer.setRow(0, 0);
        Check.due("no contours", tracer.trace(), 0);
        Check.due("no contours, traced", tracer.contourCount(), 0);
    }
}
