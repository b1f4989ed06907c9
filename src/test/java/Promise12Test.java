/** Promise 12: hasEdge. */
public final class Promise12Test {
    public static void main(String[] args) {
        ring();
        diamond();
        rim();
        wrongArguments();
        countsAreLengths(Pictures.RING);
        countsAreLengths(Pictures.DIAMOND);
        countsAreLengths(Pictures.NESTED);
        Check.finish();
    }

    private static void sides(BorderTracer tracer, int k, int x, int y, String want) {
        for (int side = 0; side < 4; side++) {
            String call = "hasEdge(" + k + ", " + x + ", " + y + ", " + side + ")";
            Check.due(call, tracer.hasEdge(k, x, y, side), want.charAt(side) == '1');
        }
    }

    /** In the order top, right, bottom, left. */
    private static void ring() {
        BorderTracer tracer = Pictures.drawAndTrace(Pictures.RING);
        sides(tracer, 0, 1, 1, "1001");
        sides(tracer, 0, 3, 1, "1000");
        sides(tracer, 0, 5, 5, "0110");
        sides(tracer, 0, 6, 6, "1111");
        sides(tracer, 1, 3, 1, "0010");
        sides(tracer, 1, 5, 3, "0001");
        sides(tracer, 1, 3, 5, "1000");
        sides(tracer, 1, 1, 3, "0100");
        sides(tracer, 1, 1, 1, "0000");
        // The island's edges belong to the island, not to the hole round it.
        sides(tracer, 1, 3, 3, "0000");
        sides(tracer, 2, 3, 3, "1111");
        sides(tracer, 2, 1, 3, "0000");
        // Background pixels have no edges, of no contour.
        sides(tracer, 0, 0, 1, "0000");
        sides(tracer, 1, 2, 2, "0000");
        sides(tracer, 2, 3, 2, "0000");
    }

    private static void diamond() {
        BorderTracer tracer = Pictures.drawAndTrace(Pictures.DIAMOND);
        sides(tracer, 0, 2, 0, "1101");
        sides(tracer, 1, 2, 0, "0010");
        sides(tracer, 0, 1, 1, "1001");
        sides(tracer, 1, 1, 1, "0110");
        sides(tracer, 0, 4, 2, "1110");
        sides(tracer, 1, 4, 2, "0001");
    }

    private static void rim() {
        BorderTracer tracer = Pictures.drawAndTrace("##", "##");
        sides(tracer, 0, 0, 0, "1001");
        sides(tracer, 0, 1, 0, "1100");
        sides(tracer, 0, 0, 1, "0011");
        sides(tracer, 0, 1, 1, "0110");
    }

    private static void wrongArguments() {
        BorderTracer tracer = Pictures.draw(Pictures.RING);
        Check.due("not traced", tracer.hasEdge(0, 6, 6, 0), false);
        tracer.trace();
        tracer.toggleFill(1);
        String before = Pictures.state(tracer, 8, 8);
        int[] wrong = {Integer.MIN_VALUE, -4, -2, -1, 8, 256, 65536, Integer.MAX_VALUE};
        for (int value : wrong) {
            Check.due("wrong contour " + value, tracer.hasEdge(value, 6, 6, 0), false);
            Check.due("wrong side " + value, tracer.hasEdge(0, 6, 6, value), false);
        }
        Check.due("contour n", tracer.hasEdge(3, 6, 6, 0), false);
        for (int side = 4; side < 9; side++) {
            Check.due("side " + side, tracer.hasEdge(2, 3, 3, side), false);
        }
        for (int coordinate : Pictures.NOT_A_COORDINATE) {
            Check.due("wrong x " + coordinate, tracer.hasEdge(0, coordinate, 6, 1), false);
            Check.due("wrong y " + coordinate, tracer.hasEdge(0, 6, coordinate, 1), false);
        }
        Check.due("hasEdge changes nothing", Pictures.state(tracer, 8, 8).equals(before), true);
        tracer.setPixel(6, 6, 1);
        Check.due("invalidated", tracer.hasEdge(0, 6, 6, 0), false);
    }

    private static void countsAreLengths(String[] picture) {
        BorderTracer tracer = Pictures.drawAndTrace(picture);
        for (int k = 0; k < tracer.contourCount(); k++) {
            int count = 0;
            for (int triple = 0; triple < 18 * 18 * 4; triple++) {
                count += tracer.hasEdge(k, triple / 4 % 18 - 1, triple / 72 - 1, triple % 4) ? 1 : 0;
            }
            Check.due("edges of " + k, count, tracer.contourLength(k));
        }
    }
}
