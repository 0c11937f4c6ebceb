/** The document's terms, worked out another way than in the program: by tables and by adding one at a time. */
final class Model {
    static final int O = 16384;

    private final int a;
    private final int[] power = new int[127];
    private final int[] exponent = new int[128];
    final int[] points;

    Model(int a) {
        this.a = a;
        fillTables();
        points = java.util.stream.IntStream.rangeClosed(0, O).filter(this::satisfiesEquation).toArray();
    }

    /** z generates every element but 0, since 127 is a prime. */
    private void fillTables() {
        int element = 1;
        for (int i = 0; i < 127; i++) {
            power[i] = element;
            exponent[element] = i;
            element = remainder(element << 1);
        }
    }

    private static int remainder(int polynomial) {
        int rest = polynomial;
        for (int digit = 14; digit >= 7; digit--) {
            if ((rest >> digit & 1) == 1) {
                rest ^= 0b10000011 << (digit - 7);
            }
        }
        return rest;
    }

    int times(int b, int c) {
        return b == 0 || c == 0 ? 0 : power[(exponent[b] + exponent[c]) % 127];
    }

    int over(int b, int c) {
        return b == 0 ? 0 : power[(exponent[b] - exponent[c] + 127) % 127];
    }

    private boolean satisfiesEquation(int p) {
        if (p == O) {
            return true;
        }
        int x = p >> 7;
        int y = p & 127;
        int xx = times(x, x);
        int squared = a == 1 ? xx : 0;
        return (times(y, y) ^ times(x, y) ^ times(x, xx) ^ squared) == 1;
    }

    boolean isPoint(int p) {
        return java.util.Arrays.binarySearch(points, p) >= 0;
    }

    int negative(int p) {
        return p == O ? O : p ^ p >> 7;
    }

    int sum(int p, int q) {
        if (p == O || q == O) {
            return p == O ? q : p;
        }
        if (q == negative(p)) {
            return O;
        }
        int x = p >> 7;
        int y = p & 127;
        int u = q >> 7;
        int v = q & 127;
        if (x != u) {
            int slope = over(y ^ v, x ^ u);
            int s = times(slope, slope) ^ slope ^ x ^ u ^ a;
            return s << 7 | (times(slope, x ^ s) ^ s ^ y);
        }
        int slope = x ^ over(y, x);
        int s = times(slope, slope) ^ slope ^ a;
        return s << 7 | (times(x, x) ^ times(slope ^ 1, s));
    }

    /** 0 P, 1 P and so on up to most P, each the one before it plus P. */
    int[] multiples(int p, int most) {
        int[] found = new int[most + 1];
        found[0] = O;
        for (int k = 1; k <= most; k++) {
            found[k] = sum(found[k - 1], p);
        }
        return found;
    }

    int multiple(int k, int p) {
        int reached = O;
        for (int i = 0; i < (k < 0 ? -k : k); i++) {
            reached = sum(reached, p);
        }
        return k < 0 ? negative(reached) : reached;
    }
}
