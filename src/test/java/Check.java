/** Counts and prints the calls whose answer is not the one that is due. */
final class Check {
    private static final int MOST_PRINTED = 20;

    private static int wrong = 0;
    private static int made = 0;

    private Check() {
    }

    static void due(String method, long got, long want, int... arguments) {
        made++;
        if (got != want) {
            wrong(method + java.util.Arrays.toString(arguments) + " answered " + got + ", due is " + want);
        }
    }

    static void due(String method, boolean got, boolean want, int... arguments) {
        due(method, got ? 1 : 0, want ? 1 : 0, arguments);
    }

    /** A call that the document refuses with BAD_ARG. */
    static void refused(String method, int got, int... arguments) {
        due(method, got, KoblitzTauNaf.BAD_ARG, arguments);
    }

    /** The test of one sentence of the document; one that throws, or that looks at nothing, is wrong too. */
    static void sentence(String words, Runnable test) {
        int wrongBefore = wrong;
        int madeBefore = made;
        try {
            test.run();
        } catch (RuntimeException | Error thrown) {
            wrong("threw " + thrown);
        }
        if (made == madeBefore) {
            wrong("no call was looked at");
        }
        if (wrong != wrongBefore) {
            System.out.println("BROKEN: " + words);
        }
    }

    static void end() {
        System.out.println(made + " checks, " + wrong + " wrong");
        if (wrong != 0 || made == 0) {
            System.exit(1);
        }
    }

    private static void wrong(String what) {
        wrong++;
        if (wrong <= MOST_PRINTED) {
            System.out.println(what);
        }
    }
}
