import java.math.BigDecimal;
import java.math.RoundingMode;

/** Promises 2 to 5: units, read, names and compare. */
public final class ReadingTest {
    public static void main(String[] args) {
        unitsOfAllCodes();
        for (int c = 0; c < Exact.CODES; c++) {
            around(Exact.value(c));
            if (c > 0) {
                around(Exact.value(c - 1).add(Exact.value(c)).divide(new BigDecimal(2)));
            }
        }
        around(new BigDecimal(4080));
        around(new BigDecimal(4096));
        allScales();
        manyDecimals();
        Check.end();
    }

    private static void unitsOfAllCodes() {
        for (int c = 0; c < Exact.CODES; c++) {
            ShortestDigits x = new ShortestDigits();
            BigDecimal units = Exact.value(c).multiply(new BigDecimal(512));
            Check.due("units(" + c + ")", x.units(c), units.intValueExact());
        }
    }

    /** The decimals next to x on both sides, as near as eight digits allow, and x if it is one. */
    private static void around(BigDecimal x) {
        for (int q = Exact.FIRST_Q; q <= Exact.LAST_Q; q++) {
            BigDecimal scaled = x.scaleByPowerOfTen(-q).setScale(0, RoundingMode.FLOOR);
            if (scaled.compareTo(new BigDecimal(Exact.LAST_D)) > 0) {
                continue;
            }
            int below = scaled.intValueExact();
            for (int d = below - 1; d <= below + 2; d++) {
                if (Exact.isDecimal(d, q)) {
                    checkDecimal(d, q);
                }
            }
        }
    }

    private static void allScales() {
        int[] ds = {0, 1, 2, 5, 9, 10, 99, 512, 4064, 4080, 4096, 65536, 12345678, 99999999};
        for (int q = Exact.FIRST_Q; q <= Exact.LAST_Q; q++) {
            for (int d : ds) {
                checkDecimal(d, q);
            }
        }
    }

    private static void manyDecimals() {
        Exact.Numbers numbers = new Exact.Numbers(7);
        int bound = 1;
        for (int i = 0; i < 8000; i++) {
            bound = bound == 100000000 ? 10 : bound * 10;
            int q = numbers.next(19) - 12;
            checkDecimal(numbers.next(bound), q);
        }
    }

    private static void checkDecimal(int d, int q) {
        BigDecimal exact = Exact.decimal(d, q);
        int code = Exact.read(exact);
        String pair = "(" + d + ", " + q + ")";
        ShortestDigits x = new ShortestDigits();
        Check.due("read" + pair, x.read(d, q), code);
        boolean named = exact.compareTo(new BigDecimal(4080)) < 0;
        for (int c : new int[] {code - 1, code, code + 1, 0, 341, 682, 1023}) {
            if (c >= 0 && c < Exact.CODES) {
                int side = Exact.value(c).compareTo(exact);
                Check.due("names " + c + pair, x.names(c, d, q), named && c == code);
                Check.due("compare " + c + pair, x.compare(c, d, q), side);
            }
        }
    }
}
