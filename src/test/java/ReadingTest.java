import java.math.BigDecimal;
import java.math.RoundingMode;

/** Promises 2 to 5: units, read, names and compare. */
public final class ReadingTest {
    private static final int[] NO_CODES = {-1, 1024, 1025, Integer.MIN_VALUE, Integer.MAX_VALUE};
    private static final int[][] NO_DECIMALS = {
        {-1, 0}, {100000000, 0}, {Integer.MIN_VALUE, 0}, {Integer.MAX_VALUE, 0}, {0, -13}, {0, 7},
        {1, -13}, {1, 7}, {1, Integer.MIN_VALUE}, {1, Integer.MAX_VALUE}, {-1, 7},
        {100000000, -12},
    };

    public static void main(String[] args) {
        unitsOfAllCodes();
        wordedEdges();
        for (int c = 0; c < Exact.CODES; c++) {
            around(Exact.value(c));
            if (c > 0) {
                around(Exact.value(c - 1).add(Exact.value(c)).divide(new BigDecimal(2)));
            }
        }
        around(new BigDecimal(4080));
        around(new BigDecimal(4096));
        allScales();
        manyDecimals();
        wrongArguments();
        Check.end();
    }

    private static void unitsOfAllCodes() {
        for (int c = 0; c < Exact.CODES; c++) {
            ShortestDigits x = new ShortestDigits();
            BigDecimal units = Exact.value(c).multiply(new BigDecimal(512));
            Check.due("units(" + c + ")", x.units(c), units.intValueExact());
        }
        ShortestDigits x = new ShortestDigits();
        Check.due("units(0)", x.units(0), 0);
        Check.due("units(64)", x.units(64), 64);
        Check.due("units(127)", x.units(127), 127);
        Check.due("units(128)", x.units(128), 128);
        Check.due("units(129)", x.units(129), 130);
        Check.due("units(1023)", x.units(1023), 4064 * 512);
    }

    private static void wordedEdges() {
        ShortestDigits x = new ShortestDigits();
        Check.due("tie of 0 and 1", x.read(9765625, -10), 0);
        Check.due("tie of 1 and 2", x.read(29296875, -10), 2);
        Check.due("tie of 1022 and 1023", x.read(4048, 0), 1022);
        Check.due("greater than 4064", x.read(40640001, -4), 1023);
        Check.due("4096", x.read(4096, 0), 1023);
        Check.due("the greatest decimal", x.read(99999999, 6), 1023);
        Check.due("the least decimal but 0", x.read(1, -12), 0);
        Check.due("names under 4080", x.names(1023, 40799999, -4), true);
        Check.due("names at 4080", x.names(1023, 4080, 0), false);
        Check.due("names at 408 e1", x.names(1023, 408, 1), false);
        Check.due("names above 4080", x.names(1023, 40800001, -4), false);
        Check.due("same", x.compare(256, 1, 0), 0);
        Check.due("same, with zeros", x.compare(256, 10000000, -7), 0);
        Check.due("less", x.compare(256, 10000001, -7), -1);
        Check.due("greater", x.compare(256, 99999999, -8), 1);
    }

    /** The decimals next to x on both sides, as near as eight digits allow, and x if it is one. */
    private static void around(BigDecimal x) {
        for (int q = Exact.FIRST_Q; q <= Exact.LAST_Q; q++) {
            BigDecimal scaled = x.scaleByPowerOfTen(-q).setScale(0, RoundingMode.FLOOR);
            if (scaled.compareTo(new BigDecimal(Exact.LAST_D)) > 0) {
                continue;
            }
            int below = scaled.intValueExact();
            for (int d = below - 1; d <= below + 2; d++) {
                if (Exact.isDecimal(d, q)) {
                    checkDecimal(d, q);
                }
            }
        }
    }

    private static void allScales() {
        int[] ds = {0, 1, 2, 5, 9, 10, 99, 512, 4064, 4080, 4096, 65536, 12345678, 99999999};
        for (int q = Exact.FIRST_Q; q <= Exact.LAST_Q; q++) {
            for (int d : ds) {
                checkDecimal(d, q);
            }
        }
    }

    private static void manyDecimals() {
        Exact.Numbers numbers = new Exact.Numbers(7);
        int bound = 1;
        for (int i = 0; i < 8000; i++) {
            bound = bound == 100000000 ? 10 : bound * 10;
            int q = numbers.next(19) - 12;
            checkDecimal(numbers.next(bound), q);
        }
    }

    private static void checkDecimal(int d, int q) {
        BigDecimal exact = Exact.decimal(d, q);
        int code = Exact.read(exact);
        String pair = "(" + d + ", " + q + ")";
        ShortestDigits x = new ShortestDigits();
        Check.due("read" + pair, x.read(d, q), code);
        boolean named = exact.compareTo(new BigDecimal(4080)) < 0;
        for (int c : new int[] {code - 1, code, code + 1, 0, 341, 682, 1023}) {
            if (c >= 0 && c < Exact.CODES) {
                int side = Exact.value(c).compareTo(exact);
                Check.due("names " + c + pair, x.names(c, d, q), named && c == code);
                Check.due("compare " + c + pair, x.compare(c, d, q), side);
            }
        }
    }

    private static void wrongArguments() {
        for (int c : NO_CODES) {
            ShortestDigits x = new ShortestDigits();
            Check.due("units(" + c + ")", x.units(c), ShortestDigits.BAD_ARG);
            Check.due("names " + c, x.names(c, 0, 0), false);
            Check.due("names 4096 " + c, x.names(c, 4096, 0), false);
            Check.due("compare " + c, x.compare(c, 0, 0), 2);
            Check.due("compare, both wrong " + c, x.compare(c, -1, 0), 2);
        }
        for (int[] no : NO_DECIMALS) {
            String pair = "(" + no[0] + ", " + no[1] + ")";
            for (int c = 0; c < Exact.CODES; c++) {
                ShortestDigits x = new ShortestDigits();
                Check.due("read" + pair, x.read(no[0], no[1]), ShortestDigits.BAD_ARG);
                Check.due("names " + c + pair, x.names(c, no[0], no[1]), false);
                Check.due("compare " + c + pair, x.compare(c, no[0], no[1]), 2);
            }
        }
    }
}
