/** Each sentence of promises 2 to 10 that names a boundary case, with the answers written out. */
public final class NumberEdgeTest {
    /** First and last of the range, and those next to each change of the step between values. */
    private static final int[] CODES = {0, 1, 63, 64, 127, 128, 511, 512, 959, 960, 1022, 1023};

    public static void main(String[] args) {
        units();
        unitsRefused();
        read();
        readRefused();
        names();
        namesOfNoDecimal();
        namesOfNoCode();
        compare();
        compareWithNoDecimal();
        compareWithNoCode();
        digits();
        digitsRefused();
        scale();
        scaleRefused();
        length();
        lengthOfNothing();
        lengthRefused();
        written();
        writtenEvenOfTwo();
        writtenRefusedCode();
        writtenRefusedPlaces();
        places();
        placesAlwaysThere();
        placesRefused();
        Check.end();
    }

    private static void units() {
        Check.sentence("units: The value of code c in units u");
        int[] due = {0, 1, 63, 64, 127, 128, 8128, 8192, 1040384, 1048576, 2064384, 2080768};
        ShortestDigits x = new ShortestDigits();
        for (int i = 0; i < CODES.length; i++) {
            Check.due("units(" + CODES[i] + ")", x.units(CODES[i]), due[i]);
        }
    }

    private static void unitsRefused() {
        Check.sentence("units: BAD_ARG if c is not 0 to 1023");
        for (int c : Wrong.CODES) {
            Check.due("units(" + c + ")", new ShortestDigits().units(c), -1);
        }
    }

    private static void read() {
        Check.sentence("read: Reading the decimal (d, q)");
        ShortestDigits x = new ShortestDigits();
        Check.due("read(0, 0)", x.read(0, 0), 0);
        Check.due("read(0, 6)", x.read(0, 6), 0);
        Check.due("read(1, -12)", x.read(1, -12), 0);
        Check.due("read(1, 0)", x.read(1, 0), 256);
        Check.due("read(10000000, -7)", x.read(10000000, -7), 256);
        Check.due("read(4063, 0)", x.read(4063, 0), 1023);
        Check.due("read(99999999, 6)", x.read(99999999, 6), 1023);
    }

    private static void readRefused() {
        Check.sentence("read: BAD_ARG if it is none");
        for (int d : Wrong.DS) {
            for (int q = -12; q <= 6; q++) {
                Check.due("read(" + d + ", " + q + ")", new ShortestDigits().read(d, q), -1);
            }
        }
        for (int q : Wrong.QS) {
            for (int d : new int[] {0, 1, 4064, 99999999, -1, 100000000}) {
                Check.due("read(" + d + ", " + q + ")", new ShortestDigits().read(d, q), -1);
            }
        }
    }

    private static void names() {
        Check.sentence("names: Whether the decimal (d, q) names code c");
        ShortestDigits x = new ShortestDigits();
        Check.due("names(0, 0, -12)", x.names(0, 0, -12), true);
        Check.due("names(0, 0, 6)", x.names(0, 0, 6), true);
        Check.due("names(0, 1, -12)", x.names(0, 1, -12), true);
        Check.due("names(0, 1, 6)", x.names(0, 1, 6), false);
        Check.due("names(1023, 1, 6)", x.names(1023, 1, 6), false);
        Check.due("names(1023, 4064, 0)", x.names(1023, 4064, 0), true);
        Check.due("names(1022, 4064, 0)", x.names(1022, 4064, 0), false);
        Check.due("names(256, 1, 0)", x.names(256, 1, 0), true);
        Check.due("names(255, 1, 0)", x.names(255, 1, 0), false);
        Check.due("names(257, 1, 0)", x.names(257, 1, 0), false);
    }

    private static void namesOfNoDecimal() {
        Check.sentence("names: false if it is none");
        for (int c : CODES) {
            for (int d : Wrong.DS) {
                Check.due("names(" + c + ", " + d + ", 0)",
                        new ShortestDigits().names(c, d, 0), false);
                Check.due("names(" + c + ", " + d + ", -12)",
                        new ShortestDigits().names(c, d, -12), false);
            }
            for (int q : Wrong.QS) {
                Check.due("names(" + c + ", 0, " + q + ")",
                        new ShortestDigits().names(c, 0, q), false);
                Check.due("names(" + c + ", 1, " + q + ")",
                        new ShortestDigits().names(c, 1, q), false);
            }
        }
        // Were they decimals, these would name the code.
        ShortestDigits x = new ShortestDigits();
        Check.due("names(0, 0, -13)", x.names(0, 0, -13), false);
        Check.due("names(256, 100000000, -8)", x.names(256, 100000000, -8), false);
        Check.due("names(0, -1, -12)", x.names(0, -1, -12), false);
    }

    private static void namesOfNoCode() {
        Check.sentence("names: false if c is not 0 to 1023");
        for (int c : Wrong.CODES) {
            ShortestDigits x = new ShortestDigits();
            Check.due("names(" + c + ", 0, 0)", x.names(c, 0, 0), false);
            Check.due("names(" + c + ", 1, -1)", x.names(c, 1, -1), false);
            Check.due("names(" + c + ", 4064, 0)", x.names(c, 4064, 0), false);
            Check.due("names(" + c + ", 4096, 0)", x.names(c, 4096, 0), false);
            Check.due("names(" + c + ", 99999999, 6)", x.names(c, 99999999, 6), false);
        }
        // As its refusal, reading answers -1, which is no code that a decimal could name.
        Check.due("names(-1, -1, 0)", new ShortestDigits().names(-1, -1, 0), false);
    }

    private static void compare() {
        Check.sentence("compare: -1, 0 or 1 as the value is less than, the same as or greater");
        ShortestDigits x = new ShortestDigits();
        Check.due("compare(0, 0, -12)", x.compare(0, 0, -12), 0);
        Check.due("compare(0, 0, 6)", x.compare(0, 0, 6), 0);
        Check.due("compare(0, 1, -12)", x.compare(0, 1, -12), -1);
        Check.due("compare(1, 0, 0)", x.compare(1, 0, 0), 1);
        Check.due("compare(1, 1953125, -9)", x.compare(1, 1953125, -9), 0);
        Check.due("compare(1, 19531250, -10)", x.compare(1, 19531250, -10), 0);
        Check.due("compare(1, 19531251, -10)", x.compare(1, 19531251, -10), -1);
        Check.due("compare(1, 19531249, -10)", x.compare(1, 19531249, -10), 1);
        Check.due("compare(256, 1, 0)", x.compare(256, 1, 0), 0);
        Check.due("compare(256, 99999999, -8)", x.compare(256, 99999999, -8), 1);
        Check.due("compare(256, 10000001, -7)", x.compare(256, 10000001, -7), -1);
        Check.due("compare(1023, 4064, 0)", x.compare(1023, 4064, 0), 0);
        Check.due("compare(1023, 1, -12)", x.compare(1023, 1, -12), 1);
        Check.due("compare(1023, 99999999, -12)", x.compare(1023, 99999999, -12), 1);
        Check.due("compare(0, 99999999, 6)", x.compare(0, 99999999, 6), -1);
        Check.due("compare(1023, 99999999, 6)", x.compare(1023, 99999999, 6), -1);
    }

    private static void compareWithNoDecimal() {
        Check.sentence("compare: 2 if it is none");
        for (int c : CODES) {
            for (int d : Wrong.DS) {
                Check.due("compare(" + c + ", " + d + ", 0)",
                        new ShortestDigits().compare(c, d, 0), 2);
                Check.due("compare(" + c + ", " + d + ", -12)",
                        new ShortestDigits().compare(c, d, -12), 2);
            }
            for (int q : Wrong.QS) {
                Check.due("compare(" + c + ", 0, " + q + ")",
                        new ShortestDigits().compare(c, 0, q), 2);
                Check.due("compare(" + c + ", 99999999, " + q + ")",
                        new ShortestDigits().compare(c, 99999999, q), 2);
            }
        }
    }

    private static void compareWithNoCode() {
        Check.sentence("compare: 2 if c is not 0 to 1023");
        for (int c : Wrong.CODES) {
            ShortestDigits x = new ShortestDigits();
            Check.due("compare(" + c + ", 0, 0)", x.compare(c, 0, 0), 2);
            Check.due("compare(" + c + ", 4096, 0)", x.compare(c, 4096, 0), 2);
            Check.due("compare(" + c + ", -1, 7)", x.compare(c, -1, 7), 2);
        }
    }

    private static void digits() {
        Check.sentence("digits: The d of the short decimal of code c");
        int[] due = {0, 2, 123, 125, 248, 25, 159, 16, 203, 205, 403, 406};
        for (int i = 0; i < CODES.length; i++) {
            Check.due("digits(" + CODES[i] + ")", new ShortestDigits().digits(CODES[i]), due[i]);
        }
    }

    private static void digitsRefused() {
        Check.sentence("digits: BAD_ARG if c is not 0 to 1023");
        for (int c : Wrong.CODES) {
            Check.due("digits(" + c + ")", new ShortestDigits().digits(c), -1);
        }
    }

    private static void scale() {
        Check.sentence("scale: The q of the short decimal of code c");
        int[] due = {0, -3, -3, -3, -3, -2, -1, 0, 1, 1, 1, 1};
        for (int i = 0; i < CODES.length; i++) {
            Check.due("scale(" + CODES[i] + ")", new ShortestDigits().scale(CODES[i]), due[i]);
        }
        Check.due("the greatest scale, 3", new ShortestDigits().scale(893), 3);
    }

    private static void scaleRefused() {
        Check.sentence("scale: -100 if c is not 0 to 1023");
        for (int c : Wrong.CODES) {
            Check.due("scale(" + c + ")", new ShortestDigits().scale(c), -100);
        }
    }

    private static void length() {
        Check.sentence("length: The number of digits of digits(c)");
        int[] due = {1, 1, 3, 3, 3, 2, 3, 2, 3, 3, 3, 3};
        for (int i = 0; i < CODES.length; i++) {
            Check.due("length(" + CODES[i] + ")", new ShortestDigits().length(CODES[i]), due[i]);
        }
        Check.due("four digits", new ShortestDigits().length(895), 4);
        Check.due("10 is written with 1", new ShortestDigits().length(464), 1);
        for (int c = 1; c <= 1023; c++) {
            ShortestDigits x = new ShortestDigits();
            int count = String.valueOf(x.digits(c)).length();
            Check.due("length(" + c + ")", x.length(c), count);
        }
    }

    private static void lengthOfNothing() {
        Check.sentence("length: (1 for code 0)");
        Check.due("length(0)", new ShortestDigits().length(0), 1);
    }

    private static void lengthRefused() {
        Check.sentence("length: BAD_ARG if c is not 0 to 1023");
        for (int c : Wrong.CODES) {
            Check.due("length(" + c + ")", new ShortestDigits().length(c), -1);
        }
    }

    private static void written() {
        Check.sentence("written: The whole number nearest to the value times 10 to the power p");
        ShortestDigits x = new ShortestDigits();
        Check.due("written(0, 0)", x.written(0, 0), 0);
        Check.due("written(0, 5)", x.written(0, 5), 0);
        Check.due("written(1, 0)", x.written(1, 0), 0);
        Check.due("written(1, 2)", x.written(1, 2), 0);
        Check.due("written(1, 3)", x.written(1, 3), 2);
        Check.due("written(1, 5)", x.written(1, 5), 195);
        Check.due("written(63, 0)", x.written(63, 0), 0);
        Check.due("just under a half", x.written(191, 0), 0);
        Check.due("just over a half", x.written(193, 0), 1);
        Check.due("just under one and a half", x.written(287, 0), 1);
        Check.due("just over two and a half", x.written(337, 0), 3);
        Check.due("just under 1", x.written(255, 0), 1);
        Check.due("written(1023, 0)", x.written(1023, 0), 4064);
        Check.due("the greatest answer", x.written(1023, 5), 406400000);
    }

    private static void writtenEvenOfTwo() {
        Check.sentence("written: of two as near the even one");
        ShortestDigits x = new ShortestDigits();
        // Codes of 0.5, 1.5, 2.5, 62.5 and 63.5.
        Check.due("written(192, 0)", x.written(192, 0), 0);
        Check.due("written(288, 0)", x.written(288, 0), 2);
        Check.due("written(336, 0)", x.written(336, 0), 2);
        Check.due("written(637, 0)", x.written(637, 0), 62);
        Check.due("written(639, 0)", x.written(639, 0), 64);
        // Two for each p: one that goes down, one that goes up.
        int[] down = {192, 128, 64, 32, 16, 8};
        int[] downDue = {0, 2, 12, 62, 312, 1562};
        int[] up = {288, 224, 160, 96, 48, 24};
        int[] upDue = {2, 8, 38, 188, 938, 4688};
        for (int p = 0; p <= 5; p++) {
            Check.due("written(" + down[p] + ", " + p + ")", x.written(down[p], p), downDue[p]);
            Check.due("written(" + up[p] + ", " + p + ")", x.written(up[p], p), upDue[p]);
        }
    }

    private static void writtenRefusedCode() {
        Check.sentence("written: BAD_ARG if c is not 0 to 1023");
        for (int c : Wrong.CODES) {
            for (int p = 0; p <= 5; p++) {
                Check.due("written(" + c + ", " + p + ")", new ShortestDigits().written(c, p), -1);
            }
        }
    }

    private static void writtenRefusedPlaces() {
        Check.sentence("written: BAD_ARG if p is not 0 to 5");
        for (int p : Wrong.PLACES) {
            for (int c : new int[] {0, 1, 256, 1023, -1, 1024}) {
                Check.due("written(" + c + ", " + p + ")", new ShortestDigits().written(c, p), -1);
            }
        }
    }

    private static void places() {
        Check.sentence("places: The least p from 0 to 5 such that (written(c, p), -p) names c");
        ShortestDigits x = new ShortestDigits();
        Check.due("places(0)", x.places(0), 0);
        Check.due("places(1)", x.places(1), 3);
        Check.due("0.01 names 5", x.places(5), 2);
        Check.due("0.1 names 51", x.places(51), 1);
        Check.due("just under 1, which 0.99 names", x.places(255), 2);
        Check.due("further under 1, which 0.98 does not name", x.places(254), 3);
        Check.due("1", x.places(256), 0);
        Check.due("0.5, whose 0 does not name it", x.places(192), 1);
        Check.due("63.5, whose 64 does not name it", x.places(639), 1);
        Check.due("64", x.places(640), 0);
        Check.due("4064, whose written with 5 places is no decimal", x.places(1023), 0);
    }

    private static void placesAlwaysThere() {
        Check.sentence("places: (there is always one)");
        for (int c = 0; c <= 1023; c++) {
            ShortestDigits x = new ShortestDigits();
            int p = x.places(c);
            Check.due("places(" + c + ") is 0 to 5", p >= 0 && p <= 5, true);
            Check.due("places(" + c + ") names it", x.names(c, x.written(c, p), -p), true);
            for (int less = 0; less < p; less++) {
                Check.due(less + " places name " + c,
                        x.names(c, x.written(c, less), -less), false);
            }
        }
    }

    private static void placesRefused() {
        Check.sentence("places: BAD_ARG if c is not 0 to 1023");
        for (int c : Wrong.CODES) {
            Check.due("places(" + c + ")", new ShortestDigits().places(c), -1);
        }
    }
}
