/** Texts written as strings, with '.' for the point. */
final class Texts {
    private Texts() {
    }

    static int key(char written) {
        return written == '.' ? 10 : written - '0';
    }

    static ShortestDigits typedIn(String text) {
        ShortestDigits x = new ShortestDigits();
        typeInto(x, text);
        return x;
    }

    static void typeInto(ShortestDigits x, String text) {
        for (char written : text.toCharArray()) {
            x.type(key(written));
        }
    }

    /** Whether the object's text is this one: takes all of it off, as only that shows each key. */
    static void stands(ShortestDigits x, String text, String when) {
        String digits = text.replace(".", "");
        int number = digits.isEmpty() ? 0 : Integer.parseInt(digits);
        Check.due("typedDigits of '" + text + "' " + when, x.typedDigits(), number);
        for (int i = text.length() - 1; i >= 0; i--) {
            Check.due("key " + i + " of '" + text + "' " + when, x.back(), key(text.charAt(i)));
        }
        Check.due("nothing before '" + text + "' " + when, x.back(), -4);
    }
}
