/** Promises 7 to 11 and 14: add, negate, multiple, combine, order and square. */
public final class GroupTest {
    private static final int MOST = 1000000;
    private static final int[] TIMES = {
        -MOST, -MOST + 1, -524288, -143, -142, -116, -2, -1, 0, 1, 2, 29, 71, 115, 141, 65535, 524287, 524288, MOST - 1, MOST
    };
    private static final int[] NO_TIMES = {
        MOST + 1, -MOST - 1, 1 << 20, -(1 << 20), Integer.MAX_VALUE, Integer.MIN_VALUE, Integer.MIN_VALUE + 1
    };

    private final Model model;
    private final Subject subject;
    private final int[] noPoints;

    private GroupTest(int a) {
        model = new Model(a);
        subject = new Subject(a);
        noPoints = java.util.stream.IntStream.concat(
            java.util.stream.IntStream.of(Integer.MIN_VALUE, -16384, -128, -1, 16385, 16512, 32768, Integer.MAX_VALUE),
            java.util.stream.IntStream.range(0, 16384).filter(p -> !model.isPoint(p)).limit(400)).toArray();
    }

    public static void main(String[] args) {
        for (int a = 0; a <= 1; a++) {
            GroupTest test = new GroupTest(a);
            test.sums();
            test.onePointCalls();
            test.smallMultiples();
            test.greatMultiples();
            test.combinations();
            test.noPoints();
            test.timesOutOfRange();
        }
        Check.end();
    }

    private void sums() {
        for (int p : model.points) {
            for (int q : model.points) {
                Check.due("add", subject.get().add(p, q), model.sum(p, q), p, q);
            }
        }
    }

    private void onePointCalls() {
        for (int p : model.points) {
            int x = p >> 7;
            int y = p & 127;
            int square = p == Model.O ? Model.O : 128 * model.times(x, x) + model.times(y, y);
            int order = 1;
            for (int reached = p; reached != Model.O; reached = model.sum(reached, p)) {
                order++;
            }
            Check.due("negate", subject.get().negate(p), model.negative(p), p);
            Check.due("square", subject.get().square(p), square, p);
            Check.due("order", subject.get().order(p), order, p);
        }
        Check.due("order", subject.get().order(Model.O), 1, Model.O);
        Check.due("order", subject.get().order(1), 2, 1);
    }

    private void smallMultiples() {
        for (int p : model.points) {
            int[] multiples = model.multiples(p, 300);
            for (int k = 0; k <= 300; k++) {
                Check.due("multiple", subject.get().multiple(k, p), multiples[k], k, p);
                Check.due("multiple", subject.get().multiple(-k, p), model.negative(multiples[k]), -k, p);
            }
        }
    }

    private void greatMultiples() {
        for (int i = 0; i < model.points.length; i += 9) {
            int p = model.points[i];
            for (int k : TIMES) {
                Check.due("multiple", subject.get().multiple(k, p), model.multiple(k, p), k, p);
            }
        }
        for (int k : TIMES) {
            Check.due("multiple", subject.get().multiple(k, Model.O), Model.O, k, Model.O);
        }
    }

    private void combinations() {
        int[] chosen = {1, model.points[1], model.points[7], model.points[40], model.points[100], Model.O};
        for (int p : chosen) {
            int[] ofP = multiplesOf(p);
            for (int q : chosen) {
                int[] ofQ = multiplesOf(q);
                for (int i = 0; i < TIMES.length; i++) {
                    for (int j = 0; j < TIMES.length; j++) {
                        int got = subject.get().combine(TIMES[i], p, TIMES[j], q);
                        Check.due("combine", got, model.sum(ofP[i], ofQ[j]), TIMES[i], p, TIMES[j], q);
                    }
                }
            }
        }
    }

    private int[] multiplesOf(int p) {
        int[] found = new int[TIMES.length];
        for (int i = 0; i < TIMES.length; i++) {
            found[i] = model.multiple(TIMES[i], p);
        }
        return found;
    }

    private void noPoints() {
        int[] points = {1, model.points[5], Model.O};
        for (int bad : noPoints) {
            Check.refused("negate", subject.get().negate(bad), bad);
            Check.refused("order", subject.get().order(bad), bad);
            Check.refused("square", subject.get().square(bad), bad);
            Check.refused("add", subject.get().add(bad, bad), bad, bad);
            Check.refused("multiple", subject.get().multiple(0, bad), 0, bad);
            Check.refused("multiple", subject.get().multiple(3, bad), 3, bad);
            Check.refused("combine", subject.get().combine(0, bad, 0, bad), 0, bad, 0, bad);
            for (int p : points) {
                Check.refused("add", subject.get().add(bad, p), bad, p);
                Check.refused("add", subject.get().add(p, bad), p, bad);
                Check.refused("combine", subject.get().combine(0, bad, 2, p), 0, bad, 2, p);
                Check.refused("combine", subject.get().combine(2, p, 0, bad), 2, p, 0, bad);
            }
        }
    }

    private void timesOutOfRange() {
        for (int bad : NO_TIMES) {
            for (int p : model.points) {
                Check.refused("multiple", subject.get().multiple(bad, p), bad, p);
                Check.refused("combine", subject.get().combine(bad, p, 1, 1), bad, p, 1, 1);
                Check.refused("combine", subject.get().combine(1, 1, bad, p), 1, 1, bad, p);
            }
        }
    }
}
