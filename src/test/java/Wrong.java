import java.util.stream.IntStream;

/** Arguments that are to be refused: beside the bounds, far away, and such as a mask or a remainder would let pass. */
final class Wrong {
    static final int MOST = 1000000;

    static final int[] ELEMENTS = {
        -1, -2, -64, -127, -128, 128, 129, 130, 192, 255, 256, 16384,
        Integer.MIN_VALUE, Integer.MIN_VALUE + 2, Integer.MAX_VALUE
    };

    static final int[] TIMES = {
        MOST + 1, -MOST - 1, MOST + 2, -MOST - 2, 1 << 20, -(1 << 20), 1 << 30,
        Integer.MAX_VALUE, Integer.MIN_VALUE, Integer.MIN_VALUE + 1
    };

    /** 1 and 16384 are points, and each of these is one of them with a sign or with digits added, or just beside. */
    private static final int[] NO_POINTS_AT_ALL = {
        -1, -4, -127, -128, -16383, -16384, -16385, -32767, -32768, 0, 2, 127, 16383, 16385, 16386, 16512, 32768, 32769,
        Integer.MIN_VALUE, Integer.MIN_VALUE + 1, Integer.MIN_VALUE + 16384, Integer.MAX_VALUE - 1, Integer.MAX_VALUE
    };

    private Wrong() {
    }

    /** With points of the other curve among them. */
    static int[] points(int a) {
        int[] ofTheOther = a == 0 ? new int[] {348, 350, 469, 16322} : new int[] {128, 129, 1553, 15940};
        return IntStream.concat(IntStream.of(NO_POINTS_AT_ALL), IntStream.of(ofTheOther)).toArray();
    }
}
