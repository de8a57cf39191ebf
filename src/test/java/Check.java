/** Tells every answer that is not the one that is due, and ends a test that had one with exit code 1. */
final class Check {
    private static int wrong = 0;
    private static String subject = "";

    private Check() {
    }

    /** Runs the test of one sentence of the document; a throw is told as a wrong answer, and the others still run. */
    static void sentence(String where, String words, Runnable test) {
        subject = where + " \"" + words + "\": ";
        try {
            test.run();
        } catch (RuntimeException e) {
            tell("the test", "no throw", e.toString());
        }
        subject = "";
    }

    static void due(String call, int want, int got) {
        if (got != want) {
            tell(call, "" + want, "" + got);
        }
    }

    static void due(String call, boolean want, boolean got) {
        if (got != want) {
            tell(call, "" + want, "" + got);
        }
    }

    static void due(String call, String want, String got) {
        if (!got.equals(want)) {
            tell(call, want, got);
        }
    }

    private static void tell(String call, String want, String got) {
        wrong++;
        System.out.println(subject + call + " answered " + got + ", due is " + want);
    }

    static void end() {
        if (wrong > 0) {
            System.out.println(wrong + " answers are not as due");
            System.exit(1);
        }
    }
}
