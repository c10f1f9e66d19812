/**
 * Arguments that name nothing. Beside those next to the bounds and the outermost ints stand some
 * that look right once bits of them are lost: in a shift, in a byte or a short, or in 12 * p.
 */
final class Wrong {
    static final int[] SMALL_POINTS = {-1, -2, -11, -12, -256, -357913942, Integer.MIN_VALUE + 1, Integer.MIN_VALUE};
    static final int[] LARGE_POINTS =
        {12, 13, 15, 16, 23, 31, 32, 33, 44, 256, 65536, 357913942, Integer.MAX_VALUE - 1, Integer.MAX_VALUE};
    static final int[] SMALL_ROADS = {-1, -4, -5, -27, -28, -31, -32, -256, Integer.MIN_VALUE + 1, Integer.MIN_VALUE};
    static final int[] LARGE_ROADS =
        {28, 29, 30, 31, 32, 33, 59, 60, 64, 256, 65536, Integer.MAX_VALUE - 1, Integer.MAX_VALUE};
    static final int[] SMALL_LENGTHS = {0, -1, -2, -30, -255, -65535, Integer.MIN_VALUE + 1, Integer.MIN_VALUE};
    static final int[] LARGE_LENGTHS =
        {31, 32, 33, 60, 255, 256, 257, 65537, Integer.MAX_VALUE - 1, Integer.MAX_VALUE};
    static final int[] SMALL_ENGINES = {-1, -2, -6, -7, -8, -256, Integer.MIN_VALUE + 1, Integer.MIN_VALUE};
    static final int[] LARGE_ENGINES = {7, 8, 9, 13, 14, 15, 256, 65536, Integer.MAX_VALUE - 1, Integer.MAX_VALUE};

    static final int[] POINTS = both(SMALL_POINTS, LARGE_POINTS);
    static final int[] ROADS = both(SMALL_ROADS, LARGE_ROADS);
    static final int[] LENGTHS = both(SMALL_LENGTHS, LARGE_LENGTHS);
    static final int[] ENGINES = both(SMALL_ENGINES, LARGE_ENGINES);

    private Wrong() {
    }

    private static int[] both(int[] some, int[] more) {
        int[] all = java.util.Arrays.copyOf(some, some.length + more.length);
        System.arraycopy(more, 0, all, some.length, more.length);
        return all;
    }
}
