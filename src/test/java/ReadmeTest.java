/** The calls that README.md shows, with the answers it tells; a change there is to be made here too. */
public final class ReadmeTest {
    public static void main(String[] args) {
        Check.sentence("How one is made and called: the answers", ReadmeTest::answers);
        Check.sentence("How one is made and called: the codes", ReadmeTest::codes);
        Check.sentence("All points of the curve, in the order of their numbers and with O last", ReadmeTest::allPoints);
        Check.sentence("only (0, 1), which is 1, and O are on both", ReadmeTest::pointsOfBoth);
        Check.sentence("which is 2 (2, 92) - (3, 85)", ReadmeTest::namedPairs);
        Check.end();
    }

    private static void answers() {
        KoblitzTauNaf curve = new KoblitzTauNaf(1);
        Check.due("points", curve.points(), 142);
        Check.due("isPoint", curve.isPoint(348), true, 348);
        Check.due("next", curve.next(2), 348, 2);
        Check.due("add", curve.add(348, 469), 9218, 348, 469);
        Check.due("negate", curve.negate(348), 350, 348);
        Check.due("multiple", curve.multiple(4, 348), 469, 4, 348);
        Check.due("combine", curve.combine(2, 348, -1, 469), 12988, 2, 348, -1, 469);
        Check.due("order", curve.order(348), 142, 348);
        Check.due("half", curve.half(469), 13017, 469);
        Check.due("halves", curve.halves(469), 2, 469);
        Check.due("square", curve.square(348), 566, 348);
        Check.due("log", curve.log(348, 469), 4, 348, 469);
        Check.due("times", curve.times(2, 64), 3, 2, 64);
        Check.due("over", curve.over(3, 64), 2, 3, 64);
    }

    private static void codes() {
        KoblitzTauNaf curve = new KoblitzTauNaf(1);
        Check.due("half", curve.half(348), KoblitzTauNaf.NONE, 348);
        Check.due("next", curve.next(16385), KoblitzTauNaf.NONE, 16385);
        Check.refused("add", curve.add(348, 0), 348, 0);
        Check.refused("over", curve.over(3, 0), 3, 0);
    }

    private static void allPoints() {
        int[] due = {116, 142};
        for (int a = 0; a <= 1; a++) {
            KoblitzTauNaf curve = new KoblitzTauNaf(a);
            int count = 0;
            int last = -1;
            for (int p = curve.next(0); p != KoblitzTauNaf.NONE; p = curve.next(p + 1)) {
                Check.due("greater than the one before", p > last, true, p);
                last = p;
                count++;
            }
            Check.due("points walked through", count, due[a]);
            Check.due("points", curve.points(), due[a]);
            Check.due("the last one", last, KoblitzTauNaf.O);
        }
    }

    private static void pointsOfBoth() {
        Subject zero = new Subject(0);
        Subject one = new Subject(1);
        for (int p = 0; p <= KoblitzTauNaf.O; p++) {
            boolean both = zero.get().isPoint(p) && one.get().isPoint(p);
            Check.due("isPoint on both curves", both, p == 1 || p == KoblitzTauNaf.O, p);
        }
    }

    private static void namedPairs() {
        KoblitzTauNaf curve = new KoblitzTauNaf(1);
        int first = 128 * 2 + 92;
        int second = 128 * 3 + 85;
        int twice = curve.add(first, first);
        int less = curve.negate(second);
        Check.due("add", curve.add(twice, less), 12988, twice, less);
    }
}
