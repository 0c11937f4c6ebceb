/** Promises 1, 4, 5 and 6: a new object, isPoint, points and next. */
public final class CurveTest {
    private static final int[] BELOW = {-1, -2, -5, -128, -16384, Integer.MIN_VALUE};
    private static final int[] ABOVE = {16385, 16386, 16512, 32768, Integer.MAX_VALUE};

    public static void main(String[] args) {
        newObject();
        for (int a = 0; a <= 1; a++) {
            isPoint(a);
            next(a);
        }
        Check.end();
    }

    private static void newObject() {
        int[] givenForZero = {0, -1, -3, Integer.MIN_VALUE};
        int[] givenForOne = {1, 2, 3, 128, Integer.MAX_VALUE};
        for (int given : givenForZero) {
            isCurve(given, 0, 116);
        }
        for (int given : givenForOne) {
            isCurve(given, 1, 142);
        }
    }

    private static void isCurve(int given, int a, int points) {
        KoblitzTauNaf x = new KoblitzTauNaf(given);
        Model model = new Model(a);
        Check.due("new and points", x.points(), points, given);
        Check.due("new and points", x.points(), model.points.length, given);
        // The sums use A too, not the equation alone.
        for (int p : model.points) {
            Check.due("new and add", x.add(p, p), model.sum(p, p), given, p);
        }
    }

    private static void isPoint(int a) {
        Model model = new Model(a);
        Subject subject = new Subject(a);
        for (int p = -33000; p <= 33000; p++) {
            Check.due("isPoint", subject.get().isPoint(p), model.isPoint(p), p);
        }
        for (int p : BELOW) {
            Check.due("isPoint", subject.get().isPoint(p), false, p);
        }
        for (int p : ABOVE) {
            Check.due("isPoint", subject.get().isPoint(p), false, p);
        }
    }

    private static void next(int a) {
        Model model = new Model(a);
        Subject subject = new Subject(a);
        int place = 0;
        for (int from = -3; from <= KoblitzTauNaf.O; from++) {
            if (from > model.points[place]) {
                place++;
            }
            Check.due("next", subject.get().next(from), model.points[place], from);
        }
        for (int from : BELOW) {
            Check.due("next", subject.get().next(from), 1, from);
        }
        for (int from : ABOVE) {
            Check.due("next", subject.get().next(from), KoblitzTauNaf.NONE, from);
        }
    }
}
