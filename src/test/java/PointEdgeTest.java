/** The boundary cases that promises 7 to 16 name, a test for each sentence. */
public final class PointEdgeTest {
    private static final int O = KoblitzTauNaf.O;
    private static final int NONE = KoblitzTauNaf.NONE;
    private static final int MOST = Wrong.MOST;
    /** For A = 0 and A = 1: (0, 1), a point of the greatest order, one of an odd order, and O. */
    private static final int[][] POINTS = {{1, 1701, 1553, O}, {1, 348, 469, O}};
    private static final KoblitzTauNaf ZERO = new KoblitzTauNaf(0);
    private static final KoblitzTauNaf ONE = new KoblitzTauNaf(1);

    /** A call that is handed one number that is no point, and a point. */
    private interface Call {
        void with(KoblitzTauNaf x, int bad, int p);
    }

    public static void main(String[] args) {
        Check.sentence("7: BAD_ARG if p is no point", PointEdgeTest::addFromNoPoint);
        Check.sentence("7: BAD_ARG if q is no point", PointEdgeTest::addOfNoPoint);
        Check.sentence("8: BAD_ARG if p is no point", PointEdgeTest::negateNoPoint);
        Check.sentence("9: BAD_ARG if p is no point", PointEdgeTest::multipleOfNoPoint);
        Check.sentence("9: BAD_ARG if k is not -1000000 to 1000000 (refused)", PointEdgeTest::multipleBeyondEnds);
        Check.sentence("9: k is not -1000000 to 1000000 (both ends answered)", PointEdgeTest::multipleAtEnds);
        Check.sentence("10: BAD_ARG if p is no point", PointEdgeTest::combineFirstNoPoint);
        Check.sentence("10: BAD_ARG if q is no point", PointEdgeTest::combineSecondNoPoint);
        Check.sentence("10: BAD_ARG if k is not -1000000 to 1000000", PointEdgeTest::combineFirstBeyondEnds);
        Check.sentence("10: BAD_ARG if l is not -1000000 to 1000000", PointEdgeTest::combineSecondBeyondEnds);
        Check.sentence("10: k or l is not -1000000 to 1000000 (both ends answered)", PointEdgeTest::combineAtEnds);
        Check.sentence("10: k P + l Q (k or l is 0, P = Q, the sum is O)", PointEdgeTest::combineSmall);
        Check.sentence("11: BAD_ARG if p is no point", PointEdgeTest::orderOfNoPoint);
        Check.sentence("12: The least number q that is a point with Q + Q = P", PointEdgeTest::leastHalf);
        Check.sentence("12: NONE if there is none", PointEdgeTest::noHalf);
        Check.sentence("12: BAD_ARG if p is no point", PointEdgeTest::halfOfNoPoint);
        Check.sentence("13: How many points Q there are with Q + Q = P", PointEdgeTest::countOfHalves);
        Check.sentence("13: BAD_ARG if p is no point", PointEdgeTest::halvesOfNoPoint);
        Check.sentence("14: O for O", PointEdgeTest::squareOfO);
        Check.sentence("14: (it is a point again)", PointEdgeTest::squareIsPoint);
        Check.sentence("14: BAD_ARG if p is no point", PointEdgeTest::squareOfNoPoint);
        Check.sentence("15: The least k >= 0 such that k P is Q", PointEdgeTest::leastLog);
        Check.sentence("15: NONE if there is none", PointEdgeTest::noLog);
        Check.sentence("15: BAD_ARG if p is no point", PointEdgeTest::logFromNoPoint);
        Check.sentence("15: BAD_ARG if q is no point", PointEdgeTest::logOfNoPoint);
        Check.sentence("16: half: BAD_ARG is tested before NONE", PointEdgeTest::halfBadBeforeNone);
        Check.sentence("16: log: BAD_ARG is tested before NONE", PointEdgeTest::logBadBeforeNone);
        Check.end();
    }

    /** Every wrong number beside each of the chosen points, on both curves. */
    private static void everyNoPoint(Call call) {
        for (int a = 0; a <= 1; a++) {
            for (int bad : Wrong.points(a)) {
                KoblitzTauNaf x = new KoblitzTauNaf(a);
                for (int p : POINTS[a]) {
                    call.with(x, bad, p);
                }
            }
        }
    }

    private static void addFromNoPoint() {
        everyNoPoint((x, bad, p) -> Check.refused("add", x.add(bad, p), bad, p));
    }

    private static void addOfNoPoint() {
        everyNoPoint((x, bad, p) -> {
            Check.refused("add", x.add(p, bad), p, bad);
            Check.refused("add", x.add(bad, bad), bad, bad);
        });
    }

    private static void negateNoPoint() {
        everyNoPoint((x, bad, p) -> Check.refused("negate", x.negate(bad), bad));
    }

    /** With k = 0 too, where k P would need no P. */
    private static void multipleOfNoPoint() {
        everyNoPoint((x, bad, p) -> {
            for (int k : new int[] {-MOST, -1, 0, 1, 2, MOST, MOST + 1}) {
                Check.refused("multiple", x.multiple(k, bad), k, bad);
            }
        });
    }

    /** For O too, where every k would give O. */
    private static void multipleBeyondEnds() {
        for (int a = 0; a <= 1; a++) {
            KoblitzTauNaf x = new KoblitzTauNaf(a);
            for (int bad : Wrong.TIMES) {
                for (int p : POINTS[a]) {
                    Check.refused("multiple", x.multiple(bad, p), bad, p);
                }
            }
        }
    }

    private static void multipleAtEnds() {
        Check.due("multiple", ZERO.multiple(MOST, 1701), 10550, MOST, 1701);
        Check.due("multiple", ZERO.multiple(MOST - 1, 1701), 15081, MOST - 1, 1701);
        Check.due("multiple", ZERO.multiple(-MOST, 1701), 10596, -MOST, 1701);
        Check.due("multiple", ZERO.multiple(-MOST + 1, 1701), 15004, -MOST + 1, 1701);
        Check.due("multiple", ZERO.multiple(MOST, 1), O, MOST, 1);
        Check.due("multiple", ZERO.multiple(-MOST, O), O, -MOST, O);
        Check.due("multiple", ONE.multiple(MOST, 348), 7055, MOST, 348);
        Check.due("multiple", ONE.multiple(MOST - 1, 348), 8036, MOST - 1, 348);
        Check.due("multiple", ONE.multiple(-MOST, 348), 7096, -MOST, 348);
        Check.due("multiple", ONE.multiple(-MOST + 1, 348), 8026, -MOST + 1, 348);
        Check.due("multiple", ONE.multiple(MOST, O), O, MOST, O);
    }

    /** With k or l 0 too, where the sum would need no P or no Q. */
    private static void combineFirstNoPoint() {
        everyNoPoint((x, bad, p) -> {
            for (int k : new int[] {0, 1, MOST}) {
                Check.refused("combine", x.combine(k, bad, 0, p), k, bad, 0, p);
                Check.refused("combine", x.combine(k, bad, 3, p), k, bad, 3, p);
                Check.refused("combine", x.combine(k, bad, k, bad), k, bad, k, bad);
            }
        });
    }

    private static void combineSecondNoPoint() {
        everyNoPoint((x, bad, p) -> {
            for (int l : new int[] {0, 1, MOST}) {
                Check.refused("combine", x.combine(0, p, l, bad), 0, p, l, bad);
                Check.refused("combine", x.combine(3, p, l, bad), 3, p, l, bad);
            }
        });
    }

    private static void combineFirstBeyondEnds() {
        for (int a = 0; a <= 1; a++) {
            for (int bad : Wrong.TIMES) {
                KoblitzTauNaf x = new KoblitzTauNaf(a);
                for (int p : POINTS[a]) {
                    Check.refused("combine", x.combine(bad, p, 1, 1), bad, p, 1, 1);
                    Check.refused("combine", x.combine(bad, p, 0, O), bad, p, 0, O);
                    Check.refused("combine", x.combine(bad, p, bad, p), bad, p, bad, p);
                    Check.refused("combine", x.combine(bad, 0, 1, p), bad, 0, 1, p);
                }
            }
        }
    }

    private static void combineSecondBeyondEnds() {
        for (int a = 0; a <= 1; a++) {
            for (int bad : Wrong.TIMES) {
                KoblitzTauNaf x = new KoblitzTauNaf(a);
                for (int p : POINTS[a]) {
                    Check.refused("combine", x.combine(1, 1, bad, p), 1, 1, bad, p);
                    Check.refused("combine", x.combine(0, O, bad, p), 0, O, bad, p);
                    Check.refused("combine", x.combine(1, p, bad, 0), 1, p, bad, 0);
                }
            }
        }
    }

    private static void combined(KoblitzTauNaf x, int k, int p, int l, int q, int due) {
        Check.due("combine", x.combine(k, p, l, q), due, k, p, l, q);
    }

    private static void combineAtEnds() {
        combined(ZERO, -MOST, 1701, -MOST, 1553, 1565);
        combined(ZERO, -MOST, 1701, MOST, 1553, 15928);
        combined(ZERO, MOST, 1701, -MOST, 1553, 15940);
        combined(ZERO, MOST, 1701, MOST, 1553, 1553);
        combined(ZERO, MOST - 1, 1701, -MOST + 1, 1553, 5855);
        combined(ZERO, MOST, 1701, 1, 1, 15653);
        combined(ZERO, 1, 1, MOST, 1701, 15653);
        combined(ONE, -MOST, 348, -MOST, 469, 2978);
        combined(ONE, -MOST, 348, MOST, 469, 8176);
        combined(ONE, MOST, 348, -MOST, 469, 8143);
        combined(ONE, MOST, 348, MOST, 469, 2997);
        combined(ONE, MOST - 1, 348, -MOST + 1, 469, 836);
        combined(ONE, MOST, 348, 1, 1, 8026);
        combined(ONE, 1, 1, MOST, 348, 8026);
        combined(ONE, MOST, 348, -MOST, 348, O);
    }

    private static void combineSmall() {
        combined(ZERO, 0, 1701, 0, 1553, O);
        combined(ZERO, 0, 1701, 1, 1553, 1553);
        combined(ZERO, 1, 1701, 0, 1553, 1701);
        combined(ZERO, 1, 1701, 1, 1553, 7672);
        combined(ZERO, 1, 1701, -1, 1701, O);
        combined(ZERO, 1, 1701, 1, 1701, 12869);
        combined(ONE, 0, 348, 0, 469, O);
        combined(ONE, 0, 348, 1, 469, 469);
        combined(ONE, 1, 348, 0, 469, 348);
        combined(ONE, 1, 348, 1, 469, 9218);
        combined(ONE, 1, 348, 1, O, 348);
        combined(ONE, 1, O, 1, O, O);
        combined(ONE, 1, 1, 1, 1, O);
    }

    private static void orderOfNoPoint() {
        everyNoPoint((x, bad, p) -> Check.refused("order", x.order(bad), bad));
    }

    /** O is a half of O, and 1 the lesser one. */
    private static void leastHalf() {
        Check.due("half", ZERO.half(O), 1, O);
        Check.due("half", ONE.half(O), 1, O);
        Check.due("half", ZERO.half(1), 128, 1);
        Check.due("half", ZERO.half(1553), 11585, 1553);
        Check.due("half", ZERO.half(12869), 1701, 12869);
        Check.due("half", ZERO.half(15940), 6493, 15940);
        Check.due("half", ONE.half(12988), 350, 12988);
        Check.due("half", ONE.half(13017), 348, 13017);
        Check.due("half", ONE.half(469), 13017, 469);
        Check.due("half", ONE.half(16322), 3987, 16322);
    }

    /** Half of the points of each curve have none: (0, 1) on the one curve and not on the other. */
    private static void noHalf() {
        int[] due = {58, 71};
        for (int a = 0; a <= 1; a++) {
            Subject subject = new Subject(a);
            int without = 0;
            for (int p : new Model(a).points) {
                without += subject.get().half(p) == NONE ? 1 : 0;
            }
            Check.due("points without a half", without, due[a]);
        }
        Check.due("half", ZERO.half(128), NONE, 128);
        Check.due("half", ZERO.half(129), NONE, 129);
        Check.due("half", ZERO.half(1701), NONE, 1701);
        Check.due("half", ONE.half(1), NONE, 1);
        Check.due("half", ONE.half(348), NONE, 348);
    }

    private static void halfOfNoPoint() {
        everyNoPoint((x, bad, p) -> Check.refused("half", x.half(bad), bad));
    }

    private static void countOfHalves() {
        Check.due("halves", ZERO.halves(O), 2, O);
        Check.due("halves", ONE.halves(O), 2, O);
        Check.due("halves", ZERO.halves(1), 2, 1);
        Check.due("halves", ZERO.halves(1553), 2, 1553);
        Check.due("halves", ZERO.halves(128), 0, 128);
        Check.due("halves", ZERO.halves(1701), 0, 1701);
        Check.due("halves", ONE.halves(1), 0, 1);
        Check.due("halves", ONE.halves(348), 0, 348);
        Check.due("halves", ONE.halves(469), 2, 469);
        Check.due("halves", ONE.halves(16322), 2, 16322);
    }

    private static void halvesOfNoPoint() {
        everyNoPoint((x, bad, p) -> Check.refused("halves", x.halves(bad), bad));
    }

    private static void squareOfO() {
        Check.due("square", ZERO.square(O), O, O);
        Check.due("square", ONE.square(O), O, O);
    }

    /** The seventh square of an element is the element itself. */
    private static void squareIsPoint() {
        for (int a = 0; a <= 1; a++) {
            Subject subject = new Subject(a);
            for (int p : new Model(a).points) {
                int reached = p;
                for (int i = 1; i <= 7; i++) {
                    reached = subject.get().square(reached);
                    Check.due("isPoint of square " + i, subject.get().isPoint(reached), true, p);
                }
                Check.due("seventh square", reached, p, p);
            }
        }
        Check.due("square", ZERO.square(1), 1, 1);
        Check.due("square", ZERO.square(129), 129, 129);
        Check.due("square", ZERO.square(15940), 6000, 15940);
        Check.due("square", ONE.square(348), 566, 348);
        Check.due("square", ONE.square(16322), 5604, 16322);
    }

    private static void squareOfNoPoint() {
        everyNoPoint((x, bad, p) -> Check.refused("square", x.square(bad), bad));
    }

    /** k = 0 for O, even where a greater k gives O again; the greatest k is the order less 1. */
    private static void leastLog() {
        for (int a = 0; a <= 1; a++) {
            KoblitzTauNaf x = new KoblitzTauNaf(a);
            for (int p : new Model(a).points) {
                Check.due("log", x.log(p, O), 0, p, O);
                Check.due("log", x.log(p, p), p == O ? 0 : 1, p, p);
            }
        }
        Check.due("log", ZERO.log(1701, 1704), 115, 1701, 1704);
        Check.due("log", ZERO.log(1701, 128), 29, 1701, 128);
        Check.due("log", ZERO.log(1553, 1565), 28, 1553, 1565);
        Check.due("log", ZERO.log(128, 129), 3, 128, 129);
        Check.due("log", ONE.log(348, 350), 141, 348, 350);
        Check.due("log", ONE.log(348, 1), 71, 348, 1);
        Check.due("log", ONE.log(469, 470), 70, 469, 470);
    }

    private static void noLog() {
        Check.due("log", ZERO.log(O, 1), NONE, O, 1);
        Check.due("log", ZERO.log(1, 128), NONE, 1, 128);
        Check.due("log", ZERO.log(128, 1701), NONE, 128, 1701);
        Check.due("log", ZERO.log(1553, 1), NONE, 1553, 1);
        Check.due("log", ONE.log(O, 348), NONE, O, 348);
        Check.due("log", ONE.log(1, 348), NONE, 1, 348);
        Check.due("log", ONE.log(469, 348), NONE, 469, 348);
        Check.due("log", ONE.log(469, 1), NONE, 469, 1);
    }

    private static void logFromNoPoint() {
        everyNoPoint((x, bad, p) -> Check.refused("log", x.log(bad, p), bad, p));
    }

    private static void logOfNoPoint() {
        everyNoPoint((x, bad, p) -> {
            Check.refused("log", x.log(p, bad), p, bad);
            Check.refused("log", x.log(bad, bad), bad, bad);
        });
    }

    /** No number doubles to one that is no point, so without the test each of these would be NONE. */
    private static void halfBadBeforeNone() {
        for (int a = 0; a <= 1; a++) {
            KoblitzTauNaf x = new KoblitzTauNaf(a);
            for (int bad : new int[] {NONE, KoblitzTauNaf.BAD_ARG, 0, 2, 127, 16383, 16385, Integer.MAX_VALUE}) {
                Check.refused("half", x.half(bad), bad);
            }
        }
    }

    /** From O, and from (0, 1), hardly a point is reached: a q that is no point would be NONE without the test. */
    private static void logBadBeforeNone() {
        for (int a = 0; a <= 1; a++) {
            KoblitzTauNaf x = new KoblitzTauNaf(a);
            for (int bad : new int[] {NONE, KoblitzTauNaf.BAD_ARG, 0, 2, 127, 16383, 16385, Integer.MAX_VALUE}) {
                Check.refused("log", x.log(O, bad), O, bad);
                Check.refused("log", x.log(1, bad), 1, bad);
                Check.refused("log", x.log(bad, O), bad, O);
                Check.refused("log", x.log(bad, 1), bad, 1);
                Check.refused("log", x.log(bad, bad), bad, bad);
            }
        }
    }
}
