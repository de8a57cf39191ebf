/** Tells every answer that is not the one that is due, and ends a test that had one with exit code 1. */
final class Check {
    private static int wrong = 0;

    private Check() {
    }

    static void due(String call, int want, int got) {
        if (got != want) {
            tell(call, "" + want, "" + got);
        }
    }

    static void due(String call, boolean want, boolean got) {
        if (got != want) {
            tell(call, "" + want, "" + got);
        }
    }

    static void due(String call, String want, String got) {
        if (!got.equals(want)) {
            tell(call, want, got);
        }
    }

    private static void tell(String call, String want, String got) {
        wrong++;
        System.out.println(call + " answered " + got + ", due is " + want);
    }

    static void end() {
        if (wrong > 0) {
            System.out.println(wrong + " answers are not as due");
            System.exit(1);
        }
    }
}
