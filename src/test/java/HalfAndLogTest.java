/** Promises 12, 13, 15 and 16: half, halves, log, and BAD_ARG before NONE. */
public final class HalfAndLogTest {
    private static final int[] OUTSIDE = {Integer.MIN_VALUE, -16384, -128, -4, -1, 16385, 16512, Integer.MAX_VALUE};

    private final Model model;
    private final Subject subject;

    private HalfAndLogTest(int a) {
        model = new Model(a);
        subject = new Subject(a);
    }

    public static void main(String[] args) {
        for (int a = 0; a <= 1; a++) {
            HalfAndLogTest test = new HalfAndLogTest(a);
            test.everyHalf();
            test.everyLog();
            test.badBeforeNone();
        }
        Check.end();
    }

    private void everyHalf() {
        for (int p : model.points) {
            int least = KoblitzTauNaf.NONE;
            int count = 0;
            for (int q : model.points) {
                if (model.sum(q, q) == p) {
                    least = count == 0 ? q : least;
                    count++;
                }
            }
            Check.due("half", subject.get().half(p), least, p);
            Check.due("halves", subject.get().halves(p), count, p);
        }
    }

    private void everyLog() {
        for (int p : model.points) {
            int[] multiples = model.multiples(p, model.points.length);
            for (int q : model.points) {
                int least = KoblitzTauNaf.NONE;
                for (int k = multiples.length - 1; k >= 0; k--) {
                    least = multiples[k] == q ? k : least;
                }
                Check.due("log", subject.get().log(p, q), least, p, q);
            }
        }
    }

    /** Every number that is no point, beside points for which the answer would else be NONE or a k. */
    private void badBeforeNone() {
        for (int bad : OUTSIDE) {
            refused(bad);
        }
        for (int p = 0; p < 16384; p += 7) {
            if (!model.isPoint(p)) {
                refused(p);
            }
        }
        refused(0);
    }

    private void refused(int bad) {
        int[] points = {1, model.points[3], Model.O};
        Check.due("half", subject.get().half(bad), KoblitzTauNaf.BAD_ARG, bad);
        Check.due("halves", subject.get().halves(bad), KoblitzTauNaf.BAD_ARG, bad);
        Check.due("log", subject.get().log(bad, bad), KoblitzTauNaf.BAD_ARG, bad, bad);
        for (int p : points) {
            Check.due("log", subject.get().log(p, bad), KoblitzTauNaf.BAD_ARG, p, bad);
            Check.due("log", subject.get().log(bad, p), KoblitzTauNaf.BAD_ARG, bad, p);
        }
    }
}
