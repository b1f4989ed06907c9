/** Compares answers with those that are due and ends the test program with 1 if one was wrong. */
final class Check {
    private static String sentence = "";
    private static int sentences = 0;
    private static int madeOfSentence = 0;
    private static int made = 0;
    private static int wrong = 0;

    private Check() {
    }

    /** The words of the document that the checks from here on test; a wrong answer is told with them. */
    static void sentence(String words) {
        endSentence();
        sentence = words;
        sentences++;
    }

    static void due(String call, int got, int want) {
        count(got == want, call, String.valueOf(got), String.valueOf(want));
    }

    static void due(String call, boolean got, boolean want) {
        count(got == want, call, String.valueOf(got), String.valueOf(want));
    }

    static void due(String call, String got, String want) {
        count(got.equals(want), call, "\n" + got, "\n" + want);
    }

    /** A test that checked nothing counts as failed. */
    static void finish() {
        endSentence();
        System.out.println(sentences + " sentences, " + made + " answers looked at, " + wrong + " wrong");
        if (wrong != 0 || made == 0) {
            System.exit(1);
        }
    }

    private static void count(boolean right, String call, String got, String want) {
        made++;
        madeOfSentence++;
        if (!right) {
            wrong++;
            String words = sentence.isEmpty() ? "" : "\"" + sentence + "\": ";
            System.out.println(words + call + " answered " + got + ", due is " + want);
        }
    }

    private static void endSentence() {
        if (sentences > 0 && madeOfSentence == 0) {
            wrong++;
            System.out.println("\"" + sentence + "\": nothing was looked at");
        }
        madeOfSentence = 0;
    }
}
