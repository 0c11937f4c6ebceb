/** The boundary cases that promises 1 to 6 name, a test for each sentence. */
public final class CurveEdgeTest {
    private static final int O = KoblitzTauNaf.O;
    private static final int NONE = KoblitzTauNaf.NONE;

    public static void main(String[] args) {
        Check.sentence("BAD_ARG = -1, NONE = -4, O = 16384", CurveEdgeTest::constants);
        Check.sentence("1: below 0 it becomes 0", CurveEdgeTest::curveBelow);
        Check.sentence("1: above 1 it becomes 1", CurveEdgeTest::curveAbove);
        Check.sentence("2: BAD_ARG if one is not 0 to 127", CurveEdgeTest::timesOfNoElement);
        Check.sentence("3: BAD_ARG if a or b is not 0 to 127", CurveEdgeTest::overOfNoElement);
        Check.sentence("3: BAD_ARG if b is 0", CurveEdgeTest::overZero);
        Check.sentence("4: Whether this number is a point of the curve (too small)", CurveEdgeTest::isPointBelow);
        Check.sentence("4: Whether this number is a point of the curve (too large)", CurveEdgeTest::isPointAbove);
        Check.sentence("4: Whether this number is a point of the curve (0 to 16384)", CurveEdgeTest::isPointWithin);
        Check.sentence("5: (O counts)", CurveEdgeTest::pointsWithO);
        Check.sentence("6: The least number p that is a point (from far below)", CurveEdgeTest::nextFromBelow);
        Check.sentence("6: not less than from", CurveEdgeTest::nextFromPoint);
        Check.sentence("6: not less than from (O is the last)", CurveEdgeTest::nextToO);
        Check.sentence("6: NONE if there is none", CurveEdgeTest::nextBeyond);
        Check.end();
    }

    private static void constants() {
        Check.due("BAD_ARG", KoblitzTauNaf.BAD_ARG, -1);
        Check.due("NONE", KoblitzTauNaf.NONE, -4);
        Check.due("O", KoblitzTauNaf.O, 16384);
    }

    private static void curveBelow() {
        int[] given = {0, -1, -2, -3, -127, -1000000, Integer.MIN_VALUE, Integer.MIN_VALUE + 1};
        for (int a : given) {
            KoblitzTauNaf x = new KoblitzTauNaf(a);
            Check.due("new and points", x.points(), 116, a);
            Check.due("new and next", x.next(2), 128, a);
            Check.due("new and isPoint", x.isPoint(348), false, a);
            Check.due("new and add, P = Q", x.add(1553, 1553), 12648, a);
            Check.due("new and add, P other than Q", x.add(1, 128), 129, a);
            Check.due("new and order", x.order(1701), 116, a);
        }
    }

    private static void curveAbove() {
        int[] given = {1, 2, 3, 4, 128, 1000000, Integer.MAX_VALUE, Integer.MAX_VALUE - 1};
        for (int a : given) {
            KoblitzTauNaf x = new KoblitzTauNaf(a);
            Check.due("new and points", x.points(), 142, a);
            Check.due("new and next", x.next(2), 348, a);
            Check.due("new and isPoint", x.isPoint(128), false, a);
            Check.due("new and add, P = Q", x.add(348, 348), 13017, a);
            Check.due("new and add, P other than Q", x.add(348, 469), 9218, a);
            Check.due("new and order", x.order(348), 142, a);
        }
    }

    private static void timesOfNoElement() {
        Subject subject = new Subject(0);
        for (int bad : Wrong.ELEMENTS) {
            for (int good : new int[] {0, 1, 2, 64, 127}) {
                Check.refused("times", subject.get().times(bad, good), bad, good);
                Check.refused("times", subject.get().times(good, bad), good, bad);
            }
            Check.refused("times", subject.get().times(bad, bad), bad, bad);
        }
        Check.due("times", subject.get().times(127, 1), 127, 127, 1);
        Check.due("times", subject.get().times(0, 0), 0, 0, 0);
    }

    private static void overOfNoElement() {
        Subject subject = new Subject(1);
        for (int bad : Wrong.ELEMENTS) {
            for (int good : new int[] {0, 1, 2, 64, 127}) {
                Check.refused("over", subject.get().over(bad, good), bad, good);
                Check.refused("over", subject.get().over(good, bad), good, bad);
            }
            Check.refused("over", subject.get().over(bad, bad), bad, bad);
        }
        Check.due("over", subject.get().over(127, 1), 127, 127, 1);
        Check.due("over", subject.get().over(0, 1), 0, 0, 1);
    }

    /** 0 / 0 too, though every element c has 0 c = 0. */
    private static void overZero() {
        for (int a = 0; a < 128; a++) {
            Check.refused("over", new KoblitzTauNaf(0).over(a, 0), a, 0);
        }
    }

    private static void isPointBelow() {
        for (int a = 0; a <= 1; a++) {
            KoblitzTauNaf x = new KoblitzTauNaf(a);
            for (int p = -200; p <= 0; p++) {
                Check.due("isPoint", x.isPoint(p), false, p);
            }
            int[] far = {-16036, -16256, -16383, -16384, -16385, -32768, -2097152, Integer.MIN_VALUE + 16384,
                Integer.MIN_VALUE + 348, Integer.MIN_VALUE + 128, Integer.MIN_VALUE + 1, Integer.MIN_VALUE};
            for (int p : far) {
                Check.due("isPoint", x.isPoint(p), false, p);
            }
        }
    }

    /** Among them points with 16384 added to them. */
    private static void isPointAbove() {
        for (int a = 0; a <= 1; a++) {
            KoblitzTauNaf x = new KoblitzTauNaf(a);
            for (int p = 16385; p <= 16585; p++) {
                Check.due("isPoint", x.isPoint(p), false, p);
            }
            int[] far = {16512, 16513, 16732, 16853, 32768, 32769, 65536, 2097152, 1 << 30, (1 << 30) + 1,
                Integer.MAX_VALUE - 1, Integer.MAX_VALUE};
            for (int p : far) {
                Check.due("isPoint", x.isPoint(p), false, p);
            }
        }
    }

    private static void isPointWithin() {
        int[][] points = {{1, 128, 129, 1553, 15928, 15940, O}, {1, 348, 350, 469, 16317, 16322, O}};
        int[][] beside = {{0, 2, 127, 130, 348, 1552, 1554, 15941, 16383}, {0, 2, 127, 128, 347, 349, 351, 16323, 16383}};
        for (int a = 0; a <= 1; a++) {
            KoblitzTauNaf x = new KoblitzTauNaf(a);
            for (int p : points[a]) {
                Check.due("isPoint", x.isPoint(p), true, p);
            }
            for (int p : beside[a]) {
                Check.due("isPoint", x.isPoint(p), false, p);
            }
            // With x = 0, y y = 1 leaves y = 1 alone.
            for (int y = 0; y < 128; y++) {
                Check.due("isPoint", x.isPoint(y), y == 1, y);
            }
        }
    }

    private static void pointsWithO() {
        int[] due = {116, 142};
        for (int a = 0; a <= 1; a++) {
            Subject subject = new Subject(a);
            int pairs = 0;
            for (int p = 0; p < O; p++) {
                pairs += subject.get().isPoint(p) ? 1 : 0;
            }
            Check.due("points", subject.get().points(), pairs + 1);
            Check.due("points", subject.get().points(), due[a]);
        }
    }

    private static void nextFromBelow() {
        int[] below = {0, -1, -2, -5, -128, -16384, -1000000, Integer.MIN_VALUE + 1, Integer.MIN_VALUE};
        for (int a = 0; a <= 1; a++) {
            KoblitzTauNaf x = new KoblitzTauNaf(a);
            for (int from : below) {
                Check.due("next", x.next(from), 1, from);
            }
        }
    }

    /** From a point it is that point, from the number behind it the next one, and so through them all. */
    private static void nextFromPoint() {
        int[] due = {116, 142};
        for (int a = 0; a <= 1; a++) {
            KoblitzTauNaf x = new KoblitzTauNaf(a);
            int[] points = new Model(a).points;
            int found = 0;
            for (int p = x.next(0); p != NONE && found < points.length; p = x.next(p + 1)) {
                Check.due("next", p, points[found], found);
                Check.due("next", x.next(p), p, p);
                found++;
            }
            Check.due("points found by next", found, due[a]);
        }
        Check.due("next", new KoblitzTauNaf(0).next(2), 128, 2);
        Check.due("next", new KoblitzTauNaf(1).next(2), 348, 2);
        Check.due("next", new KoblitzTauNaf(1).next(349), 350, 349);
    }

    private static void nextToO() {
        int[] last = {15940, 16322};
        for (int a = 0; a <= 1; a++) {
            KoblitzTauNaf x = new KoblitzTauNaf(a);
            Check.due("next", x.next(last[a]), last[a], last[a]);
            Check.due("next", x.next(last[a] + 1), O, last[a] + 1);
            Check.due("next", x.next(16383), O, 16383);
            Check.due("next", x.next(16384), O, 16384);
        }
    }

    private static void nextBeyond() {
        int[] beyond = {16385, 16386, 16512, 16732, 32768, 1000000, Integer.MAX_VALUE - 1, Integer.MAX_VALUE};
        for (int a = 0; a <= 1; a++) {
            KoblitzTauNaf x = new KoblitzTauNaf(a);
            for (int from : beyond) {
                Check.due("next", x.next(from), NONE, from);
            }
        }
    }
}
