import java.math.BigDecimal;
import java.math.RoundingMode;

/** Promises 9 and 10: written and places. */
public final class PlacesTest {
    public static void main(String[] args) {
        for (int c = 0; c < Exact.CODES; c++) {
            ShortestDigits x = new ShortestDigits();
            for (int p = 0; p <= 5; p++) {
                Check.due("written(" + c + ", " + p + ")", x.written(c, p), written(c, p));
            }
            Check.due("places(" + c + ")", x.places(c), places(c));
        }
        wordedEdges();
        wrongArguments();
        Check.end();
    }

    private static int written(int c, int p) {
        BigDecimal scaled = Exact.value(c).scaleByPowerOfTen(p);
        return scaled.setScale(0, RoundingMode.HALF_EVEN).intValueExact();
    }

    private static int places(int c) {
        for (int p = 0; p <= 5; p++) {
            int d = written(c, p);
            if (Exact.isDecimal(d, -p) && Exact.names(c, Exact.decimal(d, -p))) {
                return p;
            }
        }
        return -1000;
    }

    private static void wordedEdges() {
        ShortestDigits x = new ShortestDigits();
        // Code 192 is 0.5, code 288 is 1.5, code 352 is 3, code 336 is 2.5.
        Check.due("0.5 to the even 0", x.written(192, 0), 0);
        Check.due("1.5 to the even 2", x.written(288, 0), 2);
        Check.due("2.5 to the even 2", x.written(336, 0), 2);
        Check.due("3", x.written(352, 0), 3);
        Check.due("the greatest answer", x.written(1023, 5), 406400000);
        Check.due("the least code", x.written(1, 5), 195);
        Check.due("places of 0", x.places(0), 0);
        Check.due("places of 0.5", x.places(192), 1);
        Check.due("places of 4064", x.places(1023), 0);
    }

    private static void wrongArguments() {
        ShortestDigits x = new ShortestDigits();
        for (int no : new int[] {-1, 1024, Integer.MIN_VALUE, Integer.MAX_VALUE}) {
            Check.due("written(" + no + ", 0)", x.written(no, 0), ShortestDigits.BAD_ARG);
            Check.due("places(" + no + ")", x.places(no), ShortestDigits.BAD_ARG);
        }
        for (int no : new int[] {-1, 6, 7, Integer.MIN_VALUE, Integer.MAX_VALUE}) {
            Check.due("written(0, " + no + ")", x.written(0, no), ShortestDigits.BAD_ARG);
            Check.due("written(1023, " + no + ")", x.written(1023, no), ShortestDigits.BAD_ARG);
        }
    }
}
