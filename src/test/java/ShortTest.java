import java.math.BigDecimal;

/** Promises 6 to 8: digits, scale and length, against every decimal of up to four digits. */
public final class ShortTest {
    private static final int[] BEST_D = new int[Exact.CODES];
    private static final int[] BEST_Q = new int[Exact.CODES];

    public static void main(String[] args) {
        // With lengths rising, a code that has its decimal needs no longer one.
        for (int length = 1; length <= 4; length++) {
            tryAll(length);
        }
        for (int c = 0; c < Exact.CODES; c++) {
            checkCode(c);
        }
        Check.end();
    }

    private static void tryAll(int length) {
        int first = (int) Math.pow(10, length - 1);
        for (int q = Exact.FIRST_Q; q <= Exact.LAST_Q; q++) {
            for (int d = first; d < first * 10; d++) {
                BigDecimal x = Exact.decimal(d, q);
                if (d % 10 != 0 && x.compareTo(new BigDecimal(4080)) < 0) {
                    offer(new ShortestDigits().read(d, q), d, q, length);
                }
            }
        }
    }

    /** Reading is taken from the class here; ReadingTest holds it against the document. */
    private static void offer(int c, int d, int q, int length) {
        if (BEST_D[c] != 0) {
            if (String.valueOf(BEST_D[c]).length() < length) {
                return;
            }
            int side = distance(c, d, q).compareTo(distance(c, BEST_D[c], BEST_Q[c]));
            if (side > 0 || (side == 0 && d > BEST_D[c])) {
                return;
            }
        }
        BEST_D[c] = d;
        BEST_Q[c] = q;
    }

    private static BigDecimal distance(int c, int d, int q) {
        return Exact.decimal(d, q).subtract(Exact.value(c)).abs();
    }

    private static void checkCode(int c) {
        int d = c == 0 ? 0 : BEST_D[c];
        int q = c == 0 ? 0 : BEST_Q[c];
        ShortestDigits x = new ShortestDigits();
        Check.due("a short decimal was found for " + c, c == 0 || d != 0, true);
        Check.due("digits(" + c + ")", x.digits(c), d);
        Check.due("scale(" + c + ")", x.scale(c), q);
        Check.due("length(" + c + ")", x.length(c), String.valueOf(d).length());
        Check.due("it names " + c, Exact.names(c, Exact.decimal(d, q)), true);
    }
}
