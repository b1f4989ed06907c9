import java.util.function.IntUnaryOperator;

/** What the tests of contourKind, contourParent, contourStart, contourLength and contourArea have in common. */
final class ContourAnswers {
    interface Question {
        int ask(BorderTracer tracer, int k);
    }

    private ContourAnswers() {
    }

    /** The answers for all valid k, those for wrong ones on either side, and those before and after a trace. */
    static void due(String name, Question question, int invalid, String[] picture, int... want) {
        BorderTracer tracer = Pictures.draw(picture);
        wrongNumbers(name + " not traced", k -> question.ask(tracer, k), invalid, 0);
        tracer.trace();
        tracer.toggleFill(0);
        String before = Pictures.state(tracer, picture[0].length(), picture.length);
        for (int k = 0; k < want.length; k++) {
            Check.due(name + "(" + k + ")", question.ask(tracer, k), want[k]);
        }
        wrongNumbers(name, k -> question.ask(tracer, k), invalid, want.length);
        String after = Pictures.state(tracer, picture[0].length(), picture.length);
        Check.due(name + " changes nothing", after.equals(before), true);
        tracer.setPixel(0, 0, tracer.getPixel(0, 0));
        wrongNumbers(name + " invalidated", k -> question.ask(tracer, k), invalid, 0);
    }

    private static void wrongNumbers(String name, IntUnaryOperator question, int invalid, int n) {
        int[] wrong = {Integer.MIN_VALUE, -256, -2, -1, n, n + 1, 255, 256, 257, 65536, Integer.MAX_VALUE};
        for (int k : wrong) {
            Check.due(name + "(" + k + ")", question.applyAsInt(k), invalid);
        }
    }
}
