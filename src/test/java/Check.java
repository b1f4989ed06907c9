/** Compares answers with those that are due and ends the test program with 1 if one was wrong. */
final class Check {
    private static int wrong = 0;
    private static int made = 0;

    private Check() {
    }

    static void due(String call, int got, int want) {
        made++;
        if (got != want) {
            wrong++;
            System.out.println(call + " answered " + got + ", due is " + want);
        }
    }

    static void due(String call, boolean got, boolean want) {
        made++;
        if (got != want) {
            wrong++;
            System.out.println(call + " answered " + got + ", due is " + want);
        }
    }

    /** A test that checked nothing counts as failed. */
    static void finish() {
        System.out.println(made + " answers looked at, " + wrong + " wrong");
        if (wrong != 0 || made == 0) {
            System.exit(1);
        }
    }
}
