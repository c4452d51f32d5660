/** Each sentence of promises 1 and 11 to 16 that names a boundary case, and that on 512 calls. */
public final class TextEdgeTest {
    private static final String[] TEXTS = {"", ".", "0", "7", "7.", ".7", "00", "3.14", "12345678",
        "12345678.", ".12345678", "1234.5678", "00000000", "99999999."};

    public static void main(String[] args) {
        newIsEmpty();
        typesDigits();
        typesPoint();
        noSuchKey();
        keyBeforeFull();
        eightDigitsAndADigit();
        aPointAndAPoint();
        answersNumberOfDigits();
        takesTheLastOff();
        backOfNothing();
        backAnswersKey();
        clearEmpties();
        typedReads();
        typedDigitsOfTheText();
        spareGreatest();
        spareOfAllDigits();
        spareChangesNothing();
        callsUpToTheLast();
        Check.end();
    }

    private static void newIsEmpty() {
        Check.sentence("ShortestDigits(): The text is empty");
        Check.due("typed", new ShortestDigits().typed(), 0);
        Check.due("typedDigits", new ShortestDigits().typedDigits(), 0);
        Check.due("spare", new ShortestDigits().spare(), 0);
        Check.due("back", new ShortestDigits().back(), -4);
        Check.due("a first digit", new ShortestDigits().type(0), 1);
        Check.due("a point", new ShortestDigits().type(10), 0);
        Texts.typedIn("12345678.");
        Check.due("new after another was filled", new ShortestDigits().back(), -4);
    }

    private static void typesDigits() {
        Check.sentence("type: k from 0 to 9 appends the digit");
        for (int k = 0; k <= 9; k++) {
            ShortestDigits x = new ShortestDigits();
            Check.due("type(" + k + ")", x.type(k), 1);
            Check.due("typedDigits after " + k, x.typedDigits(), k);
            Check.due("type(" + k + ") again", x.type(k), 2);
            Check.due("typedDigits after two " + k, x.typedDigits(), 11 * k);
            Check.due("back after " + k, x.back(), k);
        }
    }

    private static void typesPoint() {
        Check.sentence("type: k = 10 the point");
        ShortestDigits x = Texts.typedIn("4");
        Check.due("type(10)", x.type(10), 1);
        Check.due("the point is no digit", x.typedDigits(), 4);
        Check.due("4. is 4", x.typed(), 384);
        Check.due("a digit behind it", x.type(5), 2);
        Check.due("4.5", x.typed(), 392);
        Check.due("45", Texts.typedIn("45").typed(), 602);
    }

    private static void noSuchKey() {
        Check.sentence("type: k not 0 to 10 answers BAD_ARG");
        for (String text : TEXTS) {
            for (int k : Wrong.KEYS) {
                ShortestDigits x = Texts.typedIn(text);
                Check.due("type(" + k + ") at '" + text + "'", x.type(k), -1);
                Texts.stands(x, text, "after type(" + k + ")");
            }
        }
    }

    private static void keyBeforeFull() {
        Check.sentence("type: Tested in this order");
        ShortestDigits x = Texts.typedIn("12345678.");
        for (int k : Wrong.KEYS) {
            Check.due("type(" + k + ") at a full text", x.type(k), -1);
        }
    }

    private static void eightDigitsAndADigit() {
        Check.sentence("type: 8 digits and k a digit answers FULL");
        for (String text : new String[] {"12345678", "12345678.", ".12345678", "1234.5678",
            "00000000", "0000000.0", "99999999"}) {
            for (int k = 0; k <= 9; k++) {
                ShortestDigits x = Texts.typedIn(text);
                Check.due("type(" + k + ") at '" + text + "'", x.type(k), -2);
                Texts.stands(x, text, "after type(" + k + ")");
            }
        }
        Check.due("7 digits are not full", Texts.typedIn("1234567").type(8), 8);
        Check.due("7 digits and a point are not full", Texts.typedIn("123456.7").type(8), 8);
        Check.due("8 digits and the point", Texts.typedIn("12345678").type(10), 8);
    }

    private static void aPointAndAPoint() {
        Check.sentence("type: a point and k = 10 answers FULL");
        for (String text : new String[] {".", "1.", ".1", "1.1", "1234567.", "12345678.",
            ".12345678", "1234.5678"}) {
            ShortestDigits x = Texts.typedIn(text);
            Check.due("type(10) at '" + text + "'", x.type(10), -2);
            Texts.stands(x, text, "after type(10)");
        }
        Check.due("a point and a digit", Texts.typedIn("1234567.").type(8), 8);
    }

    private static void answersNumberOfDigits() {
        Check.sentence("type: Otherwise the number of digits");
        for (int at = 0; at <= 8; at++) {
            ShortestDigits x = new ShortestDigits();
            for (int i = 1; i <= at; i++) {
                Check.due("digit " + i + " before the point", x.type(0), i);
            }
            Check.due("the point behind " + at, x.type(10), at);
            for (int i = at + 1; i <= 8; i++) {
                Check.due("digit " + i + " behind the point", x.type(9), i);
            }
        }
    }

    private static void takesTheLastOff() {
        Check.sentence("back: Takes what was typed last (digit or point) off the text");
        for (String text : TEXTS) {
            for (int kept = 0; kept <= text.length(); kept++) {
                ShortestDigits x = Texts.typedIn(text);
                for (int i = kept; i < text.length(); i++) {
                    x.back();
                }
                Texts.stands(x, text.substring(0, kept), "cut from '" + text + "'");
            }
        }
        ShortestDigits x = Texts.typedIn("1234567.8");
        x.back();
        Check.due("a digit may come again", x.type(9), 8);
        x = Texts.typedIn("12.");
        x.back();
        Check.due("the point off, a digit", x.type(5), 3);
        Check.due("no point any more", x.typedDigits(), 125);
        Check.due("read without a point", x.typed(), 701);
        Check.due("the point may come again", x.type(10), 3);
    }

    private static void backOfNothing() {
        Check.sentence("back: NONE if it is empty");
        ShortestDigits x = new ShortestDigits();
        Check.due("back of a new object", x.back(), -4);
        Check.due("back again", x.back(), -4);
        Check.due("typedDigits", x.typedDigits(), 0);
        Check.due("spare", x.spare(), 0);
        Check.due("a digit is the first", x.type(0), 1);
        Check.due("a 0 is not nothing", x.back(), 0);
        Check.due("back of nothing", x.back(), -4);
        Check.due("a point is not nothing", x.type(10), 0);
        Check.due("back of the point", x.back(), 10);
        Check.due("back of nothing", x.back(), -4);
        Texts.typeInto(x, "12345678.");
        x.clear();
        Check.due("back after clear", x.back(), -4);
    }

    private static void backAnswersKey() {
        Check.sentence("back: Otherwise k as for type");
        for (int k = 0; k <= 10; k++) {
            ShortestDigits x = new ShortestDigits();
            x.type(k);
            Check.due("back of " + k, x.back(), k);
            Texts.typeInto(x, "1234567");
            x.type(k);
            Check.due("back of " + k + " behind seven digits", x.back(), k);
        }
        ShortestDigits x = Texts.typedIn("12345678");
        x.type(9);
        Check.due("back after a refused digit", x.back(), 8);
        x = Texts.typedIn("5.");
        x.type(10);
        Check.due("back after a refused point", x.back(), 10);
        Check.due("and the digit before it", x.back(), 5);
    }

    private static void clearEmpties() {
        Check.sentence("clear: The text is empty from now on");
        for (String text : TEXTS) {
            ShortestDigits x = Texts.typedIn(text);
            x.clear();
            Check.due("typed after '" + text + "'", x.typed(), 0);
            Check.due("spare after '" + text + "'", x.spare(), 0);
            Texts.stands(x, "", "after clear of '" + text + "'");
            x.clear();
            Texts.typeInto(x, "87654321.");
            Texts.stands(x, "87654321.", "typed after clear of '" + text + "'");
        }
        ShortestDigits x = Texts.typedIn(".5");
        x.clear();
        Texts.typeInto(x, "15");
        Check.due("no point is left", x.typed(), 504);
    }

    private static void typedReads() {
        Check.sentence("typed: Reading the decimal that the text stands for");
        typedIs("", 0);
        typedIs(".", 0);
        typedIs("0", 0);
        typedIs(".00000001", 0);
        typedIs(".00097656", 0);
        typedIs(".00097657", 1);
        typedIs("00000001", 256);
        typedIs(".99999999", 256);
        typedIs("4048", 1022);
        typedIs("4048.0000", 1022);
        typedIs("4048.0001", 1023);
        typedIs("4064", 1023);
        typedIs("4080", 1023);
        typedIs("4096", 1023);
        typedIs("99999999", 1023);
        typedIs("99999999.", 1023);
        // Between two values, as near to both: the even code, below and above.
        typedIs("2040", 960);
        typedIs("2064", 960);
        typedIs("2096", 962);
    }

    private static void typedIs(String text, int code) {
        ShortestDigits x = Texts.typedIn(text);
        Check.due("typed of '" + text + "'", x.typed(), code);
        Texts.stands(x, text, "after typed");
    }

    private static void typedDigitsOfTheText() {
        Check.sentence("typedDigits: The d of the decimal that the text stands for");
        String[] texts = {"", ".", "0", "00000000", "00000001", "0.1", ".10", "10.", "99999999",
            ".99999999", "9999.9999", "100000.00"};
        int[] due = {0, 0, 0, 0, 1, 1, 10, 10, 99999999, 99999999, 99999999, 10000000};
        for (int i = 0; i < texts.length; i++) {
            ShortestDigits x = Texts.typedIn(texts[i]);
            Check.due("typedDigits of '" + texts[i] + "'", x.typedDigits(), due[i]);
            Check.due("typedDigits of '" + texts[i] + "' again", x.typedDigits(), due[i]);
        }
    }

    private static void spareGreatest() {
        Check.sentence("spare: The greatest k, from 0, such that reading with the last k digits 0");
        spareIs("", 0);
        spareIs(".", 0);
        spareIs("9", 0);
        spareIs("3.141", 0);
        spareIs("4048.0001", 0);
        spareIs("4047", 1);
        spareIs("4048", 1);
        spareIs("4080", 1);
        spareIs("100", 2);
        spareIs("1.00", 2);
        spareIs("1.0001", 4);
        spareIs(".1000000", 6);
        spareIs("4079.9999", 5);
        spareIs(".99999999", 5);
        spareIs("65536", 4);
        spareIs("10000000", 7);
        spareIs("99999999", 7);
        spareIs("9999999.9", 7);
    }

    private static void spareOfAllDigits() {
        Check.sentence("spare: to the number of digits of the text (With k all digits d is 0.)");
        spareIs("0", 1);
        spareIs("0.", 1);
        spareIs(".0", 1);
        spareIs("00000.00", 7);
        spareIs("00000000", 8);
        spareIs(".0001", 4);
        spareIs("0.0001", 5);
        spareIs(".00000001", 8);
        spareIs(".00097656", 8);
        spareIs(".00097657", 0);
        spareIs("00000001", 0);
    }

    private static void spareIs(String text, int due) {
        ShortestDigits x = Texts.typedIn(text);
        Check.due("spare of '" + text + "'", x.spare(), due);
    }

    /** The digits are made 0 for the reading alone; the text keeps them. */
    private static void spareChangesNothing() {
        Check.sentence("spare: with the last k digits of its d made 0");
        for (String text : TEXTS) {
            ShortestDigits x = Texts.typedIn(text);
            int code = x.typed();
            int spare = x.spare();
            Check.due("spare of '" + text + "' again", x.spare(), spare);
            Check.due("typed of '" + text + "' after it", x.typed(), code);
            Texts.stands(x, text, "after spare");
        }
    }

    private static void callsUpToTheLast() {
        Check.sentence("An object is used for at most 512 calls after it has been made");
        ShortestDigits x = new ShortestDigits();
        for (int round = 0; round < 51; round++) {
            for (int i = 1; i <= 8; i++) {
                Check.due("digit " + i + " of round " + round, x.type(i), i);
            }
            Check.due("full in round " + round, x.type(9), -2);
            x.clear();
        }
        Check.due("call 511", x.type(7), 1);
        Check.due("call 512", x.typedDigits(), 7);
    }
}
