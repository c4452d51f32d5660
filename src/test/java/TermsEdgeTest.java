/** Each sentence of 'Terms' that names a boundary case, with the answers written out. */
public final class TermsEdgeTest {
    private static final int[] ENDS = {Wrong.MIN, -13, -12, -1, 0, 1, 5, 6, 10, 11, 1023, 1024,
        99999999, 100000000, Wrong.MAX};

    public static void main(String[] args) {
        // First, so that a throw is told as what it is; it would end the others halfway.
        neverThrows();
        firstAndLastOfEachPower();
        valuesGrow();
        lastCode();
        decimalRange();
        nearest();
        evenOfTwo();
        greaterThanLast();
        namesBelowLimit();
        noMultipleOfTen();
        fewestDigits();
        nearestOfSeveral();
        lesserOfTwo();
        shortOfNothing();
        eightDigits();
        onePoint();
        pointAnywhere();
        digitsBehindPoint();
        emptyOrPoint();
        refusedChangesNothing();
        constants();
        Check.end();
    }

    private static void firstAndLastOfEachPower() {
        Check.sentence("VALUE is m u for e = 0, and (64 + m) 2^(e - 1) u for e > 0");
        ShortestDigits x = new ShortestDigits();
        int[] firsts = {0, 64, 128, 256, 512, 1024, 2048, 4096, 8192, 16384, 32768, 65536, 131072,
            262144, 524288, 1048576};
        int[] lasts = {63, 127, 254, 508, 1016, 2032, 4064, 8128, 16256, 32512, 65024, 130048,
            260096, 520192, 1040384, 2080768};
        for (int e = 0; e < 16; e++) {
            Check.due("units(64 * " + e + ")", x.units(64 * e), firsts[e]);
            Check.due("units(64 * " + e + " + 63)", x.units(64 * e + 63), lasts[e]);
        }
        Check.due("the least value but 0", x.units(1), 1);
        Check.due("one step at e = 1", x.units(65), 65);
        Check.due("one step at e = 2", x.units(129), 130);
        Check.due("one step at e = 15", x.units(961), 1064960);
    }

    private static void valuesGrow() {
        Check.sentence("Values grow with codes");
        for (int c = 1; c <= 1023; c++) {
            ShortestDigits x = new ShortestDigits();
            Check.due(c + " above " + (c - 1), x.units(c) > x.units(c - 1), true);
        }
    }

    private static void lastCode() {
        Check.sentence("code 1023 has the value 4064, and a code 1024 would have 4096");
        ShortestDigits x = new ShortestDigits();
        Check.due("compare(1023, 4064, 0)", x.compare(1023, 4064, 0), 0);
        Check.due("compare(1023, 40639999, -4)", x.compare(1023, 40639999, -4), 1);
        Check.due("compare(1023, 40640001, -4)", x.compare(1023, 40640001, -4), -1);
        Check.due("1024 is no code", x.units(1024), -1);
        Check.due("4096 is no value of 1024", x.compare(1024, 4096, 0), 2);
        Check.due("4096 is not read as 1024", x.read(4096, 0), 1023);
        Check.due("4096 names no 1024", x.names(1024, 4096, 0), false);
    }

    private static void decimalRange() {
        Check.sentence("A DECIMAL is a pair (d, q), d from 0 to 99999999, q from -12 to 6");
        ShortestDigits x = new ShortestDigits();
        Check.due("read(0, -12)", x.read(0, -12), 0);
        Check.due("read(0, 6)", x.read(0, 6), 0);
        Check.due("read(1, -12)", x.read(1, -12), 0);
        Check.due("read(1, 6)", x.read(1, 6), 1023);
        Check.due("read(99999999, -12)", x.read(99999999, -12), 0);
        Check.due("read(99999999, -11)", x.read(99999999, -11), 1);
        Check.due("read(99999999, 6)", x.read(99999999, 6), 1023);
        Check.due("read(-1, 0)", x.read(-1, 0), -1);
        Check.due("read(100000000, 0)", x.read(100000000, 0), -1);
        Check.due("read(100000000, -12)", x.read(100000000, -12), -1);
        Check.due("read(0, -13)", x.read(0, -13), -1);
        Check.due("read(0, 7)", x.read(0, 7), -1);
    }

    private static void nearest() {
        Check.sentence("READING a decimal gives the code whose value is nearest to it");
        ShortestDigits x = new ShortestDigits();
        Check.due("under the border of 0 and 1", x.read(9765624, -10), 0);
        Check.due("over the border of 0 and 1", x.read(9765626, -10), 1);
        Check.due("under the border of 1 and 2", x.read(29296874, -10), 1);
        Check.due("over the border of 1 and 2", x.read(29296876, -10), 2);
        Check.due("under the border of 63 and 64", x.read(12402343, -8), 63);
        Check.due("over the border of 63 and 64", x.read(12402344, -8), 64);
        Check.due("under the border of 959 and 960", x.read(20399999, -4), 959);
        Check.due("over the border of 959 and 960", x.read(20400001, -4), 960);
        Check.due("under the border of 1022 and 1023", x.read(40479999, -4), 1022);
        Check.due("over the border of 1022 and 1023", x.read(40480001, -4), 1023);
    }

    private static void evenOfTwo() {
        Check.sentence("of two as near the even code");
        ShortestDigits x = new ShortestDigits();
        Check.due("0 and 1", x.read(9765625, -10), 0);
        Check.due("1 and 2", x.read(29296875, -10), 2);
        Check.due("2 and 3", x.read(48828125, -10), 2);
        Check.due("959 and 960, whose steps differ", x.read(2040, 0), 960);
        Check.due("960 and 961", x.read(2064, 0), 960);
        Check.due("961 and 962", x.read(2096, 0), 962);
        Check.due("1021 and 1022", x.read(4016, 0), 1022);
        Check.due("1022 and 1023", x.read(4048, 0), 1022);
        Check.due("with zeros", x.read(40480000, -4), 1022);
        Check.due("855 and 856, at q = 2", x.read(7, 2), 856);
    }

    private static void greaterThanLast() {
        Check.sentence("a decimal greater than 4064 gives 1023");
        ShortestDigits x = new ShortestDigits();
        Check.due("4064 itself", x.read(4064, 0), 1023);
        Check.due("just over 4064", x.read(40640001, -4), 1023);
        Check.due("4080", x.read(4080, 0), 1023);
        Check.due("just over 4080", x.read(40800001, -4), 1023);
        Check.due("4096", x.read(4096, 0), 1023);
        Check.due("4097", x.read(4097, 0), 1023);
        Check.due("8192", x.read(8192, 0), 1023);
        for (int q = 0; q <= 6; q++) {
            Check.due("read(99999999, " + q + ")", x.read(99999999, q), 1023);
            Check.due("read(4295, " + q + ")", x.read(4295, q), 1023);
        }
    }

    private static void namesBelowLimit() {
        Check.sentence("It NAMES a code if reading it gives that code and it is less than 4080");
        ShortestDigits x = new ShortestDigits();
        Check.due("just under 4080", x.names(1023, 40799999, -4), true);
        Check.due("4080", x.names(1023, 4080, 0), false);
        Check.due("408 at q = 1", x.names(1023, 408, 1), false);
        Check.due("40800000 at q = -4", x.names(1023, 40800000, -4), false);
        Check.due("just over 4080", x.names(1023, 40800001, -4), false);
        Check.due("4096", x.names(1023, 4096, 0), false);
        Check.due("the greatest decimal", x.names(1023, 99999999, 6), false);
        Check.due("4048, which is read as 1022", x.names(1023, 4048, 0), false);
        Check.due("4048 names 1022", x.names(1022, 4048, 0), true);
        Check.due("just over 4048", x.names(1023, 40480001, -4), true);
        Check.due("0 names 0", x.names(0, 0, 0), true);
        Check.due("0 does not name 1", x.names(1, 0, 0), false);
        Check.due("the border names 0", x.names(0, 9765625, -10), true);
        Check.due("the border does not name 1", x.names(1, 9765625, -10), false);
        Check.due("the border names 2", x.names(2, 29296875, -10), true);
        Check.due("the border does not name 1 from above", x.names(1, 29296875, -10), false);
    }

    private static void noMultipleOfTen() {
        Check.sentence("The SHORT decimal: of those whose d is no multiple of 10");
        shortIs(464, 1, 1);
        shortIs(676, 1, 2);
        shortIs(893, 1, 3);
        shortIs(856, 7, 2);
        for (int c = 1; c <= 1023; c++) {
            Check.due("last digit of digits(" + c + ") is 0",
                    new ShortestDigits().digits(c) % 10 == 0, false);
        }
    }

    private static void fewestDigits() {
        Check.sentence("The SHORT decimal: the one whose d has the fewest digits");
        shortIs(51, 1, -1);
        shortIs(65, 127, -3);
        // Were 4080 and more no bar, 5000 would name 1023 with one digit.
        shortIs(1023, 406, 1);
        // 700 is the border of 855 and 856, 900 that of 880 and 881: only the even code has it.
        shortIs(855, 696, 0);
        shortIs(856, 7, 2);
        shortIs(880, 9, 2);
        shortIs(881, 904, 0);
        // 1016 has four digits, and no shorter decimal that is the odd code's.
        shortIs(895, 1016, 0);
        shortIs(896, 102, 1);
    }

    private static void nearestOfSeveral() {
        Check.sentence("The SHORT decimal: of several the one nearest to the value");
        // Both 0.001 and 0.002 name 1; 0.009 and 0.01 name 5; 4050, 4060 and 4070 name 1023.
        shortIs(1, 2, -3);
        shortIs(2, 4, -3);
        shortIs(5, 1, -2);
        shortIs(1023, 406, 1);
        // 2040 and 2050 and 2060 name 960, whose value is 2048.
        shortIs(960, 205, 1);
    }

    private static void lesserOfTwo() {
        Check.sentence("The SHORT decimal: of two as near the one with the lesser d");
        shortIs(32, 62, -3);
        shortIs(96, 187, -3);
        shortIs(264, 112, -2);
        shortIs(280, 137, -2);
        shortIs(450, 82, -1);
        shortIs(454, 87, -1);
        shortIs(513, 162, -1);
        shortIs(575, 317, -1);
    }

    private static void shortOfNothing() {
        Check.sentence("The short decimal of code 0 is (0, 0)");
        shortIs(0, 0, 0);
    }

    private static void shortIs(int c, int d, int q) {
        ShortestDigits x = new ShortestDigits();
        Check.due("digits(" + c + ")", x.digits(c), d);
        Check.due("scale(" + c + ")", x.scale(c), q);
    }

    private static void eightDigits() {
        Check.sentence("There is a TEXT of at most 8 digits 0 to 9");
        ShortestDigits x = Texts.typedIn("9999999");
        Check.due("an eighth digit", x.type(9), 8);
        Check.due("a ninth digit", x.type(9), -2);
        Check.due("eight digits stand", x.typedDigits(), 99999999);
        x = Texts.typedIn("00000000");
        Check.due("a ninth digit behind zeros", x.type(5), -2);
        Check.due("zeros count", x.typedDigits(), 0);
        x = Texts.typedIn("1234.5678");
        Check.due("a ninth digit with a point", x.type(0), -2);
        Check.due("eight digits with a point", x.typedDigits(), 12345678);
    }

    private static void onePoint() {
        Check.sentence("and at most one POINT");
        for (String text : new String[] {".", "5.", ".5", "1.5", "12345678.", ".12345678"}) {
            ShortestDigits x = Texts.typedIn(text);
            int code = x.typed();
            Check.due("a second point in " + text, x.type(10), -2);
            Check.due("still as before: " + text, x.typed(), code);
        }
    }

    private static void pointAnywhere() {
        Check.sentence("which may stand before, between or behind the digits");
        for (int at = 0; at <= 8; at++) {
            ShortestDigits x = Texts.typedIn("12345678".substring(0, at));
            Check.due("the point behind " + at + " digits", x.type(10), at);
            Texts.typeInto(x, "12345678".substring(at));
            Check.due("all digits, the point behind " + at, x.typedDigits(), 12345678);
        }
        Check.due(".15", Texts.typedIn(".15").typed(), 77);
        Check.due("1.5", Texts.typedIn("1.5").typed(), 288);
        Check.due("15.", Texts.typedIn("15.").typed(), 504);
        Check.due(".99999999", Texts.typedIn(".99999999").typed(), 256);
        Check.due("99999999.", Texts.typedIn("99999999.").typed(), 1023);
        Check.due("4048.0001", Texts.typedIn("4048.0001").typed(), 1023);
        Check.due("4048.0000", Texts.typedIn("4048.0000").typed(), 1022);
    }

    private static void digitsBehindPoint() {
        Check.sentence("all its digits as d, and q = 0 less the number of digits behind the point");
        Check.due("d of .15", Texts.typedIn(".15").typedDigits(), 15);
        Check.due("d of 1.5", Texts.typedIn("1.5").typedDigits(), 15);
        Check.due("d of 1.50", Texts.typedIn("1.50").typedDigits(), 150);
        Check.due("d of 007", Texts.typedIn("007").typedDigits(), 7);
        Check.due("15, without a point", Texts.typedIn("15").typed(), 504);
        Check.due("one digit behind", Texts.typedIn("1.5").typed(), 288);
        Check.due("zeros behind", Texts.typedIn("1.50000").typed(), 288);
        Check.due("zeros right behind the point", Texts.typedIn("0.002").typed(), 1);
        Check.due("eight digits behind, under the border", Texts.typedIn(".00097656").typed(), 0);
        Check.due("eight digits behind, over the border", Texts.typedIn(".00097657").typed(), 1);
        Check.due("zeros before", Texts.typedIn("00000001").typed(), 256);
    }

    private static void emptyOrPoint() {
        Check.sentence("An empty text, or a point only, stands for (0, 0)");
        for (String text : new String[] {"", "."}) {
            ShortestDigits x = Texts.typedIn(text);
            Check.due("typed of '" + text + "'", x.typed(), 0);
            Check.due("typedDigits of '" + text + "'", x.typedDigits(), 0);
            Check.due("spare of '" + text + "'", x.spare(), 0);
        }
    }

    private static void neverThrows() {
        Check.sentence("No call ever throws");
        for (String text : new String[] {"", ".", "99999999.", ".99999999"}) {
            for (int a : ENDS) {
                for (int b : ENDS) {
                    Check.due("throws at " + a + ", " + b + " with '" + text + "'",
                            throwsSomewhere(text, a, b), false);
                }
            }
        }
    }

    private static boolean throwsSomewhere(String text, int a, int b) {
        try {
            ShortestDigits x = Texts.typedIn(text);
            callQueries(x, a, b);
            x.type(a);
            callText(x);
            x.clear();
            callText(x);
            return false;
        } catch (RuntimeException | Error thrown) {
            System.out.println(thrown);
            return true;
        }
    }

    private static void callQueries(ShortestDigits x, int a, int b) {
        x.units(a);
        x.read(a, b);
        for (int c : ENDS) {
            x.names(c, a, b);
            x.compare(c, a, b);
        }
        x.digits(a);
        x.scale(a);
        x.length(a);
        x.written(a, b);
        x.places(a);
    }

    private static void callText(ShortestDigits x) {
        x.typed();
        x.typedDigits();
        x.spare();
        x.back();
    }

    private static void refusedChangesNothing() {
        Check.sentence("A refused call answers the code named and changes nothing");
        for (String text : new String[] {"", ".", "5", "5.", ".5", "12.5", "00", "12345678",
            "1234567.8", "12345678.", ".12345678"}) {
            ShortestDigits x = Texts.typedIn(text);
            refusedQueries(x);
            Texts.stands(x, text, "after refused queries");
            x = Texts.typedIn(text);
            refusedKeys(x, text);
            Texts.stands(x, text, "after refused keys");
        }
        ShortestDigits x = new ShortestDigits();
        Check.due("back of nothing", x.back(), -4);
        Check.due("back of nothing again", x.back(), -4);
        Texts.stands(x, "", "after back of nothing");
    }

    private static void refusedQueries(ShortestDigits x) {
        for (int c : new int[] {-1, 1024}) {
            Check.due("units(" + c + ")", x.units(c), -1);
            Check.due("names(" + c + ", 1, 0)", x.names(c, 1, 0), false);
            Check.due("compare(" + c + ", 1, 0)", x.compare(c, 1, 0), 2);
            Check.due("digits(" + c + ")", x.digits(c), -1);
            Check.due("scale(" + c + ")", x.scale(c), -100);
            Check.due("length(" + c + ")", x.length(c), -1);
            Check.due("written(" + c + ", 0)", x.written(c, 0), -1);
            Check.due("places(" + c + ")", x.places(c), -1);
        }
        Check.due("read(1, 7)", x.read(1, 7), -1);
        Check.due("read(-1, 0)", x.read(-1, 0), -1);
        Check.due("written(1, 6)", x.written(1, 6), -1);
    }

    private static void refusedKeys(ShortestDigits x, String text) {
        Check.due("type(-1) at " + text, x.type(-1), -1);
        Check.due("type(11) at " + text, x.type(11), -1);
        if (text.contains(".")) {
            Check.due("type(10) at " + text, x.type(10), -2);
        }
        if (text.replace(".", "").length() == 8) {
            Check.due("type(0) at " + text, x.type(0), -2);
            Check.due("type(9) at " + text, x.type(9), -2);
        }
    }

    private static void constants() {
        Check.sentence("The constants: BAD_ARG = -1, FULL = -2, NONE = -4");
        Check.due("BAD_ARG", ShortestDigits.BAD_ARG, -1);
        Check.due("FULL", ShortestDigits.FULL, -2);
        Check.due("NONE", ShortestDigits.NONE, -4);
        ShortestDigits x = Texts.typedIn("12345678.");
        Check.due("an argument out of its range", x.type(11), -1);
        Check.due("the text has 8 digits", x.type(1), -2);
        Check.due("the text has a point already", x.type(10), -2);
        Check.due("there is no such thing", new ShortestDigits().back(), -4);
    }
}
