import java.math.BigDecimal;

/** The document's terms once more, from its words, with exact numbers and by trying all codes. */
final class Exact {
    static final int CODES = 1024;
    static final int LAST_D = 99999999;
    static final int FIRST_Q = -12;
    static final int LAST_Q = 6;
    private static final BigDecimal NAMING_LIMIT = new BigDecimal(4080);
    private static final BigDecimal[] VALUES = values();

    private Exact() {
    }

    private static BigDecimal[] values() {
        BigDecimal unit = BigDecimal.ONE.divide(new BigDecimal(512));
        BigDecimal[] all = new BigDecimal[CODES];
        for (int c = 0; c < CODES; c++) {
            int e = c / 64;
            int m = c % 64;
            BigDecimal inUnits = e == 0
                    ? new BigDecimal(m)
                    : new BigDecimal(64 + m).multiply(new BigDecimal(2).pow(e - 1));
            all[c] = inUnits.multiply(unit);
        }
        return all;
    }

    static BigDecimal value(int c) {
        return VALUES[c];
    }

    static BigDecimal decimal(int d, int q) {
        return BigDecimal.valueOf(d, -q);
    }

    static boolean isDecimal(long d, int q) {
        return d >= 0 && d <= LAST_D && q >= FIRST_Q && q <= LAST_Q;
    }

    static int read(BigDecimal x) {
        int nearest = 0;
        BigDecimal least = x.subtract(VALUES[0]).abs();
        for (int c = 1; c < CODES; c++) {
            BigDecimal distance = x.subtract(VALUES[c]).abs();
            int side = distance.compareTo(least);
            if (side < 0 || (side == 0 && c % 2 == 0)) {
                nearest = c;
                least = distance;
            }
        }
        return nearest;
    }

    static boolean names(int c, BigDecimal x) {
        return x.compareTo(NAMING_LIMIT) < 0 && read(x) == c;
    }

    /** A fixed run of numbers 0 to bound - 1, the same at every start. */
    static final class Numbers {
        private long state;

        Numbers(long seed) {
            state = seed;
        }

        int next(int bound) {
            state = state * 6364136223846793005L + 1442695040888963407L;
            return (int) ((state >>> 33) % bound);
        }
    }
}
