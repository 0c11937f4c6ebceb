/** Promises 2 and 3: times and over. */
public final class FieldTest {
    private static final int[] NO_ELEMENTS = {
        -1, 128, 129, 255, 256, 16384, -128, -127, Integer.MIN_VALUE, Integer.MAX_VALUE
    };

    public static void main(String[] args) {
        namedInDocument();
        for (int a = 0; a <= 1; a++) {
            everyPair(a);
            everyPairWithWrongOne(a);
        }
        Check.end();
    }

    private static void namedInDocument() {
        KoblitzTauNaf x = new KoblitzTauNaf(0);
        Check.due("times", x.times(2, 64), 3, 2, 64);
        Check.due("over", x.over(3, 64), 2, 3, 64);
        Check.due("over", x.over(0, 0), KoblitzTauNaf.BAD_ARG, 0, 0);
        Check.due("over", x.over(0, 127), 0, 0, 127);
    }

    private static void everyPair(int a) {
        Model model = new Model(a);
        Subject subject = new Subject(a);
        for (int b = 0; b < 128; b++) {
            for (int c = 0; c < 128; c++) {
                int quotient = c == 0 ? KoblitzTauNaf.BAD_ARG : model.over(b, c);
                Check.due("times", subject.get().times(b, c), model.times(b, c), b, c);
                Check.due("over", subject.get().over(b, c), quotient, b, c);
            }
        }
    }

    private static void everyPairWithWrongOne(int a) {
        Subject subject = new Subject(a);
        for (int bad : NO_ELEMENTS) {
            for (int good = 0; good < 128; good++) {
                refused(subject, bad, good);
                refused(subject, good, bad);
            }
            for (int other : NO_ELEMENTS) {
                refused(subject, bad, other);
            }
        }
    }

    private static void refused(Subject subject, int b, int c) {
        Check.due("times", subject.get().times(b, c), KoblitzTauNaf.BAD_ARG, b, c);
        Check.due("over", subject.get().over(b, c), KoblitzTauNaf.BAD_ARG, b, c);
    }
}
