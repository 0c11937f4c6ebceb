import java.util.function.Consumer;

/** The boundary cases that 'What it is' and 'Terms' name, a test for each sentence. */
public final class TermsEdgeTest {
    private static final int O = KoblitzTauNaf.O;
    private static final KoblitzTauNaf ZERO = new KoblitzTauNaf(0);
    private static final KoblitzTauNaf ONE = new KoblitzTauNaf(1);
    private static final int PROMISED_CALLS = 512;

    public static void main(String[] args) {
        Check.sentence("An object is used for at most 512 calls after it has been made", TermsEdgeTest::lastPromisedCall);
        Check.sentence("Its elements are the numbers 0 to 127", TermsEdgeTest::leastAndGreatestElement);
        Check.sentence("reduced modulo z^7 + z + 1. So 2 times 64 is 3.", TermsEdgeTest::reduction);
        Check.sentence("For b other than 0, a / b is the element c with b c = a.", TermsEdgeTest::division);
        Check.sentence("With A = 0 or A = 1 given for the curve", TermsEdgeTest::bothCurves);
        Check.sentence("A point is handed over as the number 128 x + y, and O as 16384.", TermsEdgeTest::numbersOfPoints);
        Check.sentence("The NEGATIVE of (x, y) is (x, x + y)", TermsEdgeTest::negativeOfPair);
        Check.sentence("that of O is O", TermsEdgeTest::negativeOfO);
        Check.sentence("O + Q = Q", TermsEdgeTest::sumFromO);
        Check.sentence("P + O = P", TermsEdgeTest::sumWithO);
        Check.sentence("P + Q = O if Q is the negative of P", TermsEdgeTest::sumWithNegative);
        Check.sentence("if P = (x, y) and Q = (u, v) with x other than u", TermsEdgeTest::sumOfOtherX);
        Check.sentence("else (then P = Q and x is not 0)", TermsEdgeTest::sumOfSame);
        Check.sentence("The MULTIPLE k P for k >= 0 is O for k = 0", TermsEdgeTest::noTimes);
        Check.sentence("and (k - 1) P + P else", TermsEdgeTest::multiplesComeRound);
        Check.sentence("for k < 0 it is the negative of (-k) P", TermsEdgeTest::timesBelowZero);
        Check.sentence("The ORDER of P is the least k >= 1 with k P = O.", TermsEdgeTest::leastOrder);
        Check.sentence("No call ever throws.", TermsEdgeTest::noThrow);
        Check.sentence("A refused call answers the code named and changes nothing.", TermsEdgeTest::refusedChangesNothing);
        Check.end();
    }

    /** Each kind of call once as the 512th of an object, after calls of every kind, and 512 times on one object. */
    private static void lastPromisedCall() {
        int[] due = answers(new KoblitzTauNaf(1), false);
        int kinds = due.length;
        for (int last = 0; last < kinds; last++) {
            KoblitzTauNaf mixed = new KoblitzTauNaf(1);
            KoblitzTauNaf same = new KoblitzTauNaf(1);
            for (int call = 1; call < PROMISED_CALLS; call++) {
                answer(mixed, call % kinds, call % 3 == 0);
                answer(same, last, false);
            }
            Check.due("512th call of kind " + last, answer(mixed, last, false), due[last]);
            Check.due("512th call, all of kind " + last, answer(same, last, false), due[last]);
        }
        int[] written = {3, 2, 1, 142, 348, 9218, 350, 7055, 9218, 142, 350, 2, 566, 4};
        for (int kind = 0; kind < kinds; kind++) {
            Check.due("call of kind " + kind, due[kind], written[kind]);
        }
    }

    private static int[] answers(KoblitzTauNaf x, boolean wrong) {
        int[] found = new int[14];
        for (int kind = 0; kind < found.length; kind++) {
            found[kind] = answer(x, kind, wrong);
        }
        return found;
    }

    /** A call of each kind for A = 1, in the order of the face; the wrong ones are refused where the call can be. */
    private static int answer(KoblitzTauNaf x, int kind, boolean wrong) {
        switch (kind) {
            case 0: return x.times(2, wrong ? 128 : 64);
            case 1: return x.over(3, wrong ? 0 : 64);
            case 2: return x.isPoint(wrong ? 16385 : O) ? 1 : 0;
            case 3: return x.points();
            case 4: return x.next(wrong ? 16385 : 2);
            case 5: return x.add(348, wrong ? 0 : 469);
            case 6: return x.negate(wrong ? -1 : 348);
            case 7: return x.multiple(wrong ? 1000001 : 1000000, 348);
            case 8: return x.combine(1, 348, wrong ? -1000001 : 1, 469);
            case 9: return x.order(wrong ? 0 : 348);
            case 10: return x.half(wrong ? 0 : 12988);
            case 11: return x.halves(wrong ? 0 : O);
            case 12: return x.square(wrong ? 16383 : 348);
            default: return x.log(348, wrong ? 0 : 469);
        }
    }

    private static void leastAndGreatestElement() {
        Check.due("times", ZERO.times(0, 127), 0, 0, 127);
        Check.due("times", ZERO.times(127, 0), 0, 127, 0);
        Check.due("times", ZERO.times(127, 127), 43, 127, 127);
        Check.due("times", ZERO.times(0, 0), 0, 0, 0);
        Check.due("over", ZERO.over(127, 127), 1, 127, 127);
        Check.due("over", ZERO.over(0, 127), 0, 0, 127);
        Check.refused("times", ZERO.times(-1, 127), -1, 127);
        Check.refused("times", ZERO.times(127, 128), 127, 128);
        Check.refused("over", ZERO.over(-1, 127), -1, 127);
        Check.refused("over", ZERO.over(127, 128), 127, 128);
    }

    /** The greatest products that need no reduction, and the least ones that do. */
    private static void reduction() {
        Check.due("times", ZERO.times(1, 127), 127, 1, 127);
        Check.due("times", ZERO.times(2, 63), 126, 2, 63);
        Check.due("times", ZERO.times(64, 1), 64, 64, 1);
        Check.due("times", ZERO.times(2, 64), 3, 2, 64);
        Check.due("times", ZERO.times(64, 2), 3, 64, 2);
        Check.due("times", ZERO.times(3, 64), 67, 3, 64);
        Check.due("times", ZERO.times(127, 2), 125, 127, 2);
        Check.due("times", ZERO.times(64, 64), 96, 64, 64);
        Check.due("times", ONE.times(2, 64), 3, 2, 64);
    }

    private static void division() {
        Subject subject = new Subject(1);
        for (int b = 1; b < 128; b++) {
            for (int a = 0; a < 128; a++) {
                int c = subject.get().over(a, b);
                Check.due("b c", subject.get().times(b, c), a, a, b);
            }
            Check.due("over", subject.get().over(0, b), 0, 0, b);
            Check.due("over", subject.get().over(b, b), 1, b, b);
            Check.due("over", subject.get().over(b, 1), b, b, 1);
        }
        Check.due("over", ZERO.over(1, 127), 64, 1, 127);
        Check.due("over", ZERO.over(126, 127), 65, 126, 127);
        Check.refused("over", ZERO.over(1, 0), 1, 0);
    }

    /** (0, 1) is on both curves, and no other pair with x = 0 or on both. */
    private static void bothCurves() {
        for (int p = 0; p < O; p++) {
            boolean both = new KoblitzTauNaf(0).isPoint(p) && new KoblitzTauNaf(1).isPoint(p);
            Check.due("isPoint on both curves", both, p == 1, p);
        }
        Check.due("isPoint", ZERO.isPoint(128), true, 128);
        Check.due("isPoint", ONE.isPoint(128), false, 128);
        Check.due("isPoint", ZERO.isPoint(348), false, 348);
        Check.due("isPoint", ONE.isPoint(348), true, 348);
        Check.due("points", ZERO.points(), 116);
        Check.due("points", ONE.points(), 142);
    }

    /** The least and the greatest pair of each curve; 16383 is (127, 127) and on neither. */
    private static void numbersOfPoints() {
        Check.due("O", O, 16384);
        Check.due("isPoint", ZERO.isPoint(16384), true, 16384);
        Check.due("isPoint", ONE.isPoint(16384), true, 16384);
        Check.due("isPoint", ZERO.isPoint(1), true, 1);
        Check.due("isPoint", ONE.isPoint(1), true, 1);
        Check.due("isPoint", ZERO.isPoint(15940), true, 15940);
        Check.due("isPoint", ONE.isPoint(16322), true, 16322);
        Check.due("isPoint", ZERO.isPoint(16383), false, 16383);
        Check.due("isPoint", ONE.isPoint(16383), false, 16383);
        Check.due("isPoint", ZERO.isPoint(0), false, 0);
        Check.due("isPoint", ONE.isPoint(0), false, 0);
    }

    private static void negativeOfPair() {
        Check.due("negate", ZERO.negate(1), 1, 1);
        Check.due("negate", ONE.negate(1), 1, 1);
        Check.due("negate", ZERO.negate(128), 129, 128);
        Check.due("negate", ZERO.negate(129), 128, 129);
        Check.due("negate", ZERO.negate(15940), 15928, 15940);
        Check.due("negate", ONE.negate(348), 350, 348);
        Check.due("negate", ONE.negate(16322), 16317, 16322);
    }

    private static void negativeOfO() {
        Check.due("negate", ZERO.negate(O), O, O);
        Check.due("negate", ONE.negate(O), O, O);
    }

    private static void everyPoint(int a, Consumer<Integer> test) {
        for (int p : new Model(a).points) {
            test.accept(p);
        }
    }

    private static void sumFromO() {
        for (int a = 0; a <= 1; a++) {
            KoblitzTauNaf x = new KoblitzTauNaf(a);
            everyPoint(a, q -> Check.due("add", x.add(O, q), q, O, q));
        }
        Check.due("add", ZERO.add(O, O), O, O, O);
    }

    private static void sumWithO() {
        for (int a = 0; a <= 1; a++) {
            KoblitzTauNaf x = new KoblitzTauNaf(a);
            everyPoint(a, p -> Check.due("add", x.add(p, O), p, p, O));
        }
        Check.due("add", ONE.add(O, O), O, O, O);
    }

    /** The negative of (0, 1) is (0, 1), so this sentence comes before that of P = Q. */
    private static void sumWithNegative() {
        for (int a = 0; a <= 1; a++) {
            KoblitzTauNaf x = new KoblitzTauNaf(a);
            everyPoint(a, p -> Check.due("add", x.add(p, x.negate(p)), O, p));
        }
        Check.due("add", ZERO.add(1, 1), O, 1, 1);
        Check.due("add", ONE.add(1, 1), O, 1, 1);
        Check.due("add", ZERO.add(128, 129), O, 128, 129);
        Check.due("add", ONE.add(350, 348), O, 350, 348);
    }

    /** With an x that is 0, with L = 0, with L = 1, and with a sum whose x is 0. */
    private static void sumOfOtherX() {
        Check.due("add", ZERO.add(1, 128), 129, 1, 128);
        Check.due("add", ZERO.add(1553, 1), 12149, 1553, 1);
        Check.due("add", ONE.add(1, 348), 8374, 1, 348);
        Check.due("add", ZERO.add(1, 129), 128, 1, 129);
        Check.due("add", ONE.add(348, 1244), 1366, 348, 1244);
        Check.due("add", ZERO.add(1704, 15314), 15653, 1704, 15314);
        Check.due("add", ONE.add(348, 1110), 1502, 348, 1110);
        Check.due("add", ZERO.add(1553, 12075), 1, 1553, 12075);
        Check.due("add", ONE.add(348, 8439), 1, 348, 8439);
    }

    /** With y = 0, with L = 0, and ordinary ones. */
    private static void sumOfSame() {
        Check.due("add", ZERO.add(128, 128), 1, 128, 128);
        Check.due("add", ZERO.add(129, 129), 1, 129, 129);
        Check.due("add", ZERO.add(1553, 1553), 12648, 1553, 1553);
        Check.due("add", ONE.add(348, 348), 13017, 348, 348);
        Check.due("add", ONE.add(16322, 16322), 9653, 16322, 16322);
    }

    private static void noTimes() {
        for (int a = 0; a <= 1; a++) {
            KoblitzTauNaf x = new KoblitzTauNaf(a);
            everyPoint(a, p -> Check.due("multiple", x.multiple(0, p), O, 0, p));
        }
    }

    private static void multiples(KoblitzTauNaf x, int p, int[][] timesAndDue) {
        for (int[] pair : timesAndDue) {
            Check.due("multiple", x.multiple(pair[0], p), pair[1], pair[0], p);
        }
    }

    private static void multiplesComeRound() {
        multiples(ZERO, 1701, new int[][] {{1, 1701}, {2, 12869}, {115, 1704}, {116, O}, {117, 1701}});
        multiples(ZERO, 1553, new int[][] {{1, 1553}, {2, 12648}, {28, 1565}, {29, O}, {30, 1553}, {116, O}});
        multiples(ZERO, 128, new int[][] {{1, 128}, {2, 1}, {3, 129}, {4, O}, {5, 128}});
        multiples(ONE, 348, new int[][] {{1, 348}, {2, 13017}, {71, 1}, {141, 350}, {142, O}, {143, 348}});
        multiples(ONE, 1, new int[][] {{1, 1}, {2, O}, {3, 1}});
        multiples(ONE, O, new int[][] {{1, O}, {2, O}, {142, O}, {1000000, O}});
    }

    private static void timesBelowZero() {
        multiples(ZERO, 1701, new int[][] {{-1, 1704}, {-2, 12833}, {-115, 1701}, {-116, O}, {-117, 1704}});
        multiples(ZERO, 128, new int[][] {{-1, 129}, {-2, 1}, {-3, 128}, {-4, O}, {-5, 129}});
        multiples(ONE, 348, new int[][] {{-1, 350}, {-2, 12988}, {-71, 1}, {-141, 348}, {-142, O}, {-143, 350}});
        multiples(ONE, 1, new int[][] {{-1, 1}, {-2, O}});
        multiples(ONE, O, new int[][] {{-1, O}, {-1000000, O}});
    }

    private static void leastOrder() {
        Check.due("order", ZERO.order(O), 1, O);
        Check.due("order", ONE.order(O), 1, O);
        Check.due("order", ZERO.order(1), 2, 1);
        Check.due("order", ZERO.order(128), 4, 128);
        Check.due("order", ZERO.order(1553), 29, 1553);
        Check.due("order", ZERO.order(3373), 58, 3373);
        Check.due("order", ZERO.order(1701), 116, 1701);
        Check.due("order", ONE.order(1), 2, 1);
        Check.due("order", ONE.order(469), 71, 469);
        Check.due("order", ONE.order(348), 142, 348);
    }

    private static void noThrow() {
        int[] any = {Integer.MIN_VALUE, Integer.MIN_VALUE + 1, -1000001, -1000000, -16384, -128, -4, -1, 0, 1, 127, 128,
            348, 16383, 16384, 16385, 1000000, 1000001, Integer.MAX_VALUE - 1, Integer.MAX_VALUE};
        for (int a : any) {
            Subject subject = new Subject(a);
            for (int p : any) {
                for (int q : any) {
                    withTwo(subject, p, q);
                }
                withOne(subject, p);
                Check.due("no throw", true, true, a, p);
            }
        }
    }

    private static void withTwo(Subject subject, int p, int q) {
        subject.get().times(p, q);
        subject.get().over(p, q);
        subject.get().add(p, q);
        subject.get().multiple(p, q);
        subject.get().combine(p, q, q, p);
        subject.get().log(p, q);
    }

    private static void withOne(Subject subject, int p) {
        subject.get().isPoint(p);
        subject.get().points();
        subject.get().next(p);
        subject.get().negate(p);
        subject.get().order(p);
        subject.get().half(p);
        subject.get().halves(p);
        subject.get().square(p);
    }

    /** After one refused call of each kind, every kind of call answers as on a new object. */
    private static void refusedChangesNothing() {
        int[] due = answers(new KoblitzTauNaf(1), false);
        for (int refused = 0; refused < due.length; refused++) {
            KoblitzTauNaf x = new KoblitzTauNaf(1);
            answer(x, refused, true);
            int[] after = answers(x, false);
            for (int kind = 0; kind < due.length; kind++) {
                Check.due("after a refused call of kind " + refused + ", kind " + kind, after[kind], due[kind]);
            }
        }
        int[] codes = {-1, -1, 0, 142, -4, -1, -1, -1, -1, -1, -1, -1, -1, -1};
        int[] wrong = answers(new KoblitzTauNaf(1), true);
        for (int kind = 0; kind < codes.length; kind++) {
            Check.due("the code of a refused call of kind " + kind, wrong[kind], codes[kind]);
        }
    }
}
