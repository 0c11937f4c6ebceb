/** The points of a curve over the field of 128 elements, their sums, multiples, halves and orders. */
public final class KoblitzTauNaf {
    /** An argument is no point, no element or out of its range. */
    public static final int BAD_ARG = -1;
    /** There is no such point. */
    public static final int NONE = -4;
    /** The point O. */
    public static final int O = 16384;

    private static final int DEGREE = 7;
    private static final int ELEMENTS = 128;
    /** z^7 + z + 1, digit i being the factor of z to the power i. */
    private static final int MODULUS = 131;
    private static final int MOST_TIMES = 1000000;
    /** MOST_TIMES is below 2 to the power 20. */
    private static final int TIMES_DIGITS = 20;

    private final int curveA;

    /**
     * The curve.
     *
     * @param a A; below 0 it becomes 0, above 1 it becomes 1
     */
    public KoblitzTauNaf(int a) {
        curveA = a < 0 ? 0 : a > 1 ? 1 : a;
    }

    /** The product of the elements a and b; BAD_ARG if one is not 0 to 127. */
    public int times(int a, int b) {
        if (!isElement(a) || !isElement(b)) {
            return BAD_ARG;
        }
        return product(a, b);
    }

    /** a / b; BAD_ARG if a or b is not 0 to 127 or b is 0. */
    public int over(int a, int b) {
        if (!isElement(a) || !isElement(b) || b == 0) {
            return BAD_ARG;
        }
        return quotient(a, b);
    }

    /** Whether this number is a point of the curve. */
    public boolean isPoint(int p) {
        if (p < 0 || p > O) {
            return false;
        }
        if (p == O) {
            return true;
        }
        int x = xOf(p);
        int y = yOf(p);
        int xx = product(x, x);
        int left = product(y, y) ^ product(x, y);
        int right = product(xx, x) ^ product(curveA, xx) ^ 1;
        return left == right;
    }

    /** The number of points of the curve (O counts). */
    public int points() {
        int count = 0;
        for (int p = 0; p <= O; p++) {
            if (isPoint(p)) {
                count++;
            }
        }
        return count;
    }

    /** The least number p that is a point and not less than from; NONE if there is none. */
    public int next(int from) {
        // A negative from would make the walk as long as from is far below 0.
        int start = from < 0 ? 0 : from;
        for (int p = start; p <= O; p++) {
            if (isPoint(p)) {
                return p;
            }
        }
        return NONE;
    }

    /** P + Q; BAD_ARG if p or q is no point. */
    public int add(int p, int q) {
        if (!isPoint(p) || !isPoint(q)) {
            return BAD_ARG;
        }
        return sum(p, q);
    }

    /** The negative of P; BAD_ARG if p is no point. */
    public int negate(int p) {
        if (!isPoint(p)) {
            return BAD_ARG;
        }
        return negative(p);
    }

    /** k P; BAD_ARG if p is no point or k is not -1000000 to 1000000. */
    public int multiple(int k, int p) {
        if (!isPoint(p) || !isTimes(k)) {
            return BAD_ARG;
        }
        return repeated(k, p);
    }

    /** k P + l Q; BAD_ARG if p or q is no point or k or l is not -1000000 to 1000000. */
    public int combine(int k, int p, int l, int q) {
        if (!isPoint(p) || !isPoint(q) || !isTimes(k) || !isTimes(l)) {
            return BAD_ARG;
        }
        int first = repeated(k, p);
        int second = repeated(l, q);
        return sum(first, second);
    }

    /** The order of P; BAD_ARG if p is no point. */
    public int order(int p) {
        if (!isPoint(p)) {
            return BAD_ARG;
        }
        int k = 1;
        int reached = p;
        // An order is at most the number of points, and O + 1 numbers are all there are.
        while (reached != O && k <= O) {
            reached = sum(reached, p);
            k++;
        }
        return k;
    }

    /** The least number q that is a point with Q + Q = P; NONE if there is none; BAD_ARG if p is no point. */
    public int half(int p) {
        if (!isPoint(p)) {
            return BAD_ARG;
        }
        for (int q = 0; q <= O; q++) {
            if (isHalf(q, p)) {
                return q;
            }
        }
        return NONE;
    }

    /** How many points Q there are with Q + Q = P; BAD_ARG if p is no point. */
    public int halves(int p) {
        if (!isPoint(p)) {
            return BAD_ARG;
        }
        int count = 0;
        for (int q = 0; q <= O; q++) {
            if (isHalf(q, p)) {
                count++;
            }
        }
        return count;
    }

    /** The point (x x, y y) for P = (x, y), O for O; BAD_ARG if p is no point. */
    public int square(int p) {
        if (!isPoint(p)) {
            return BAD_ARG;
        }
        if (p == O) {
            return O;
        }
        int x = xOf(p);
        int y = yOf(p);
        int xx = product(x, x);
        int yy = product(y, y);
        return pointOf(xx, yy);
    }

    /** The least k >= 0 such that k P is Q; NONE if there is none; BAD_ARG if p or q is no point. */
    public int log(int p, int q) {
        if (!isPoint(p) || !isPoint(q)) {
            return BAD_ARG;
        }
        int reached = O;
        for (int k = 0; k <= O; k++) {
            if (reached == q) {
                return k;
            }
            reached = sum(reached, p);
            // From O on, the multiples only come round again.
            if (reached == O) {
                return NONE;
            }
        }
        return NONE;
    }

    private static boolean isElement(int a) {
        return a >= 0 && a < ELEMENTS;
    }

    private static boolean isTimes(int k) {
        return k >= -MOST_TIMES && k <= MOST_TIMES;
    }

    private static int xOf(int p) {
        return p / ELEMENTS;
    }

    private static int yOf(int p) {
        return p % ELEMENTS;
    }

    private static int pointOf(int x, int y) {
        return ELEMENTS * x + y;
    }

    private static int product(int a, int b) {
        int result = 0;
        for (int i = DEGREE - 1; i >= 0; i--) {
            result = result << 1;
            if (result >= ELEMENTS) {
                result = result ^ MODULUS;
            }
            if ((b >> i & 1) == 1) {
                result = result ^ a;
            }
        }
        return result;
    }

    /** For b other than 0; the field is small enough to try every element. */
    private static int quotient(int a, int b) {
        for (int c = 0; c < ELEMENTS; c++) {
            if (product(b, c) == a) {
                return c;
            }
        }
        return BAD_ARG;
    }

    private static int negative(int p) {
        if (p == O) {
            return O;
        }
        int x = xOf(p);
        int y = yOf(p);
        return pointOf(x, x ^ y);
    }

    private int sum(int p, int q) {
        if (p == O) {
            return q;
        }
        if (q == O) {
            return p;
        }
        if (q == negative(p)) {
            return O;
        }
        int x = xOf(p);
        int y = yOf(p);
        int u = xOf(q);
        int v = yOf(q);
        int s;
        int t;
        if (x != u) {
            int slope = quotient(y ^ v, x ^ u);
            s = product(slope, slope) ^ slope ^ x ^ u ^ curveA;
            t = product(slope, x ^ s) ^ s ^ y;
        } else {
            // Two points with one x are equal or negatives, so P = Q here, and x = 0 would make P its own negative.
            int slope = x ^ quotient(y, x);
            s = product(slope, slope) ^ slope ^ curveA;
            t = product(x, x) ^ product(slope ^ 1, s);
        }
        return pointOf(s, t);
    }

    /** Doubling instead of adding k times, since a million sums would make one call slow. */
    private int repeated(int k, int p) {
        int digits = k < 0 ? -k : k;
        int result = O;
        int power = p;
        for (int i = 0; i < TIMES_DIGITS; i++) {
            if ((digits >> i & 1) == 1) {
                result = sum(result, power);
            }
            power = sum(power, power);
        }
        return k < 0 ? negative(result) : result;
    }

    private boolean isHalf(int q, int p) {
        return isPoint(q) && sum(q, q) == p;
    }
}
