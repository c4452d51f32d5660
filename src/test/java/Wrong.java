/** Arguments out of their range: next to it, far away, and such as wrap around into it. */
final class Wrong {
    static final int MIN = Integer.MIN_VALUE;
    static final int MAX = Integer.MAX_VALUE;

    static final int[] CODES = {-1, -2, -51, -1023, -1024, MIN, MIN + 1, MIN + 51,
        1024, 1025, 1024 + 51, 2047, 2048, 65536 + 51, MAX - 1, MAX};

    static final int[] DS = {-1, -2, -99999999, MIN, MIN + 1,
        100000000, 100000001, 999999999, MAX - 1, MAX};

    static final int[] QS = {-13, -14, -256, -65536, MIN, MIN + 1,
        7, 8, 18, 19, 64, 256, 65536, MAX - 1, MAX};

    static final int[] PLACES = {-1, -2, -256, MIN, MIN + 5, 6, 7, 18, 19, 256, 65536, MAX};

    static final int[] KEYS = {-1, -2, -256, MIN, MIN + 5, 11, 12, 256 + 5, 65536 + 10, MAX};

    private Wrong() {
    }
}
