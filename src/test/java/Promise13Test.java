/** Promise 13: contourOf. */
public final class Promise13Test {
    private static final String[] NESTED_NUMBERS = {
        "00000000000--1",
        "02222222220--1",
        "02333222220--1",
        "02343225520---",
        "02333225520---",
        "02222222220---",
        "00000000000---"
    };
    private static final String[] DIAMOND_NUMBERS = {
        "--0--",
        "-010-",
        "01110",
        "-010-",
        "--0--"
    };

    public static void main(String[] args) {
        numbers(Pictures.NESTED, NESTED_NUMBERS);
        numbers(Pictures.DIAMOND, DIAMOND_NUMBERS);
        numbers(new String[] {"##.", "#.#", "###"}, new String[] {"00-", "010", "000"});
        numbers(new String[] {"###", "#.#", "#.#"}, new String[] {"000", "0-0", "0-0"});
        numbers(new String[] {"..", ".."}, new String[] {"--", "--"});
        Check.finish();
    }

    private static void numbers(String[] picture, String[] want) {
        BorderTracer tracer = Pictures.draw(picture);
        nothing("not traced", tracer, picture);
        tracer.trace();
        String before = Pictures.state(tracer, picture[0].length(), picture.length);
        for (int y = 0; y < want.length; y++) {
            for (int x = 0; x < want[y].length(); x++) {
                char digit = want[y].charAt(x);
                Check.due("contourOf " + x + " " + y, tracer.contourOf(x, y), digit == '-' ? -1 : digit - '0');
            }
        }
        for (int wrong : Pictures.NOT_A_COORDINATE) {
            Check.due("contourOf x " + wrong, tracer.contourOf(wrong, 0), -1);
            Check.due("contourOf y " + wrong, tracer.contourOf(0, wrong), -1);
            Check.due("contourOf both " + wrong, tracer.contourOf(wrong, wrong), -1);
        }
        for (int wrong = 14; wrong < 16; wrong++) {
            Check.due("contourOf x " + wrong, tracer.contourOf(wrong, 0), -1);
            Check.due("contourOf y " + wrong, tracer.contourOf(0, wrong), -1);
        }
        String after = Pictures.state(tracer, picture[0].length(), picture.length);
        Check.due("contourOf changes nothing", after.equals(before), true);
        tracer.setRow(0, 0);
        nothing("invalidated", tracer, picture);
    }

    private static void nothing(String when, BorderTracer tracer, String[] picture) {
        for (int y = 0; y < picture.length; y++) {
            for (int x = 0; x < picture[y].length(); x++) {
                Check.due(when, tracer.contourOf(x, y), BorderTracer.NO_CONTOUR);
            }
        }
    }
}
