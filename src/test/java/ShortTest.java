import java.math.BigDecimal;

/** Promises 6 to 8: digits, scale and length, against every decimal of up to four digits. */
public final class ShortTest {
    private static final int[] BEST_D = new int[Exact.CODES];
    private static final int[] BEST_Q = new int[Exact.CODES];

    public static void main(String[] args) {
        // With lengths rising, a code that has its decimal needs no longer one.
        for (int length = 1; length <= 4; length++) {
            tryAll(length);
        }
        for (int c = 0; c < Exact.CODES; c++) {
            checkCode(c);
        }
        wordedEdges();
        wrongArguments();
        Check.end();
    }

    private static void tryAll(int length) {
        int first = (int) Math.pow(10, length - 1);
        for (int q = Exact.FIRST_Q; q <= Exact.LAST_Q; q++) {
            for (int d = first; d < first * 10; d++) {
                BigDecimal x = Exact.decimal(d, q);
                if (d % 10 != 0 && x.compareTo(new BigDecimal(4080)) < 0) {
                    offer(new ShortestDigits().read(d, q), d, q, length);
                }
            }
        }
    }

    /** Reading is taken from the class here; ReadingTest holds it against the document. */
    private static void offer(int c, int d, int q, int length) {
        if (BEST_D[c] != 0) {
            if (String.valueOf(BEST_D[c]).length() < length) {
                return;
            }
            int side = distance(c, d, q).compareTo(distance(c, BEST_D[c], BEST_Q[c]));
            if (side > 0 || (side == 0 && d > BEST_D[c])) {
                return;
            }
        }
        BEST_D[c] = d;
        BEST_Q[c] = q;
    }

    private static BigDecimal distance(int c, int d, int q) {
        return Exact.decimal(d, q).subtract(Exact.value(c)).abs();
    }

    private static void checkCode(int c) {
        int d = c == 0 ? 0 : BEST_D[c];
        int q = c == 0 ? 0 : BEST_Q[c];
        ShortestDigits x = new ShortestDigits();
        Check.due("a short decimal was found for " + c, c == 0 || d != 0, true);
        Check.due("digits(" + c + ")", x.digits(c), d);
        Check.due("scale(" + c + ")", x.scale(c), q);
        Check.due("length(" + c + ")", x.length(c), String.valueOf(d).length());
        Check.due("it names " + c, Exact.names(c, Exact.decimal(d, q)), true);
    }

    private static void wordedEdges() {
        ShortestDigits x = new ShortestDigits();
        Check.due("digits(0)", x.digits(0), 0);
        Check.due("scale(0)", x.scale(0), 0);
        Check.due("length(0)", x.length(0), 1);
        // 0.001 and 0.002 both name code 1.
        Check.due("digits(1)", x.digits(1), 2);
        Check.due("scale(1)", x.scale(1), -3);
        // 4060 and 4070 both name code 1023.
        Check.due("digits(1023)", x.digits(1023), 406);
        Check.due("scale(1023)", x.scale(1023), 1);
        Check.due("length(1023)", x.length(1023), 3);
    }

    private static void wrongArguments() {
        ShortestDigits x = new ShortestDigits();
        for (int c : new int[] {-1, 1024, Integer.MIN_VALUE, Integer.MAX_VALUE}) {
            Check.due("digits(" + c + ")", x.digits(c), ShortestDigits.BAD_ARG);
            Check.due("scale(" + c + ")", x.scale(c), -100);
            Check.due("length(" + c + ")", x.length(c), ShortestDigits.BAD_ARG);
        }
    }
}
