/** Counts wrong answers and ends a test with exit code 1 if there was one. */
final class Check {
    private static int wrong = 0;
    private static int made = 0;

    private Check() {
    }

    static void due(String call, long got, long want) {
        made++;
        if (got != want) {
            wrong++;
            System.out.println(call + " answered " + got + ", due is " + want);
        }
    }

    static void due(String call, boolean got, boolean want) {
        due(call, got ? 1L : 0L, want ? 1L : 0L);
    }

    static void due(String what, Object got, Object want) {
        made++;
        if (!want.equals(got)) {
            wrong++;
            System.out.println(what + " is " + got + ", due is " + want);
        }
    }

    /**
     * The test of one sentence of the document; the sentence is named if its test fails.
     * A call that throws breaks the sentence as a wrong answer does.
     */
    static void sentence(String where, String words, Runnable test) {
        int wrongBefore = wrong;
        int madeBefore = made;
        try {
            test.run();
        } catch (RuntimeException thrown) {
            wrong++;
            System.out.println("thrown: " + thrown);
        }
        if (made == madeBefore) {
            wrong++;
        }
        if (wrong != wrongBefore) {
            System.out.println("BROKEN " + where + ": " + words);
        }
    }

    static void end() {
        System.out.println(made + " checks, " + wrong + " wrong");
        if (wrong != 0 || made == 0) {
            System.exit(1);
        }
    }
}
