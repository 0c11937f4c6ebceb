/** Counts and prints the calls whose answer is not the one that is due. */
final class Check {
    private static final int MOST_PRINTED = 20;

    private static int wrong = 0;
    private static int made = 0;

    private Check() {
    }

    static void due(String method, long got, long want, int... arguments) {
        made++;
        if (got == want) {
            return;
        }
        wrong++;
        if (wrong <= MOST_PRINTED) {
            System.out.println(method + java.util.Arrays.toString(arguments) + " answered " + got + ", due is " + want);
        }
    }

    static void due(String method, boolean got, boolean want, int... arguments) {
        due(method, got ? 1 : 0, want ? 1 : 0, arguments);
    }

    static void end() {
        System.out.println(made + " checks, " + wrong + " wrong");
        if (wrong != 0 || made == 0) {
            System.exit(1);
        }
    }
}
