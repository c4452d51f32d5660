import java.math.BigDecimal;
import java.math.RoundingMode;

/** Promises 9 and 10: written and places. */
public final class PlacesTest {
    public static void main(String[] args) {
        for (int c = 0; c < Exact.CODES; c++) {
            ShortestDigits x = new ShortestDigits();
            for (int p = 0; p <= 5; p++) {
                Check.due("written(" + c + ", " + p + ")", x.written(c, p), written(c, p));
            }
            Check.due("places(" + c + ")", x.places(c), places(c));
        }
        Check.end();
    }

    private static int written(int c, int p) {
        BigDecimal scaled = Exact.value(c).scaleByPowerOfTen(p);
        return scaled.setScale(0, RoundingMode.HALF_EVEN).intValueExact();
    }

    private static int places(int c) {
        for (int p = 0; p <= 5; p++) {
            int d = written(c, p);
            if (Exact.isDecimal(d, -p) && Exact.names(c, Exact.decimal(d, -p))) {
                return p;
            }
        }
        return -1000;
    }
}
