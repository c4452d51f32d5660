import java.math.BigDecimal;

/** Promises 1 and 11 to 16: a new object, type, back, clear, typed, typedDigits and spare. */
public final class TypingTest {
    private static final int CALLS = 512;

    public static void main(String[] args) {
        pointAnywhere();
        twoObjects();
        for (int run = 0; run < 300; run++) {
            manyCalls(run);
        }
        Check.end();
    }

    /** Texts with the point at every place, before and behind all digits too. */
    private static void pointAnywhere() {
        String[] texts = {"0", "5", "10", "0000", "1000", "4079", "4080", "00001953", "10000000",
            "99999999", "50000000", "40959999", "00010000", "12345678", "00097656"};
        for (String text : texts) {
            for (int at = 0; at <= text.length(); at++) {
                ShortestDigits x = new ShortestDigits();
                Model model = new Model();
                for (char key : (text.substring(0, at) + "." + text.substring(at)).toCharArray()) {
                    int k = Texts.key(key);
                    Check.due("type in " + text, x.type(k), model.type(k));
                    model.checkAnswers(x);
                }
                for (int i = 0; i <= text.length() + 1; i++) {
                    Check.due("back in " + text, x.back(), model.back());
                    model.checkAnswers(x);
                }
            }
        }
    }

    private static void twoObjects() {
        ShortestDigits one = new ShortestDigits();
        ShortestDigits other = new ShortestDigits();
        one.type(4);
        other.type(10);
        other.type(2);
        Check.due("one object's text", one.typedDigits(), 4);
        Check.due("the other's text", other.typedDigits(), 2);
        other.clear();
        Check.due("one object's text still", one.typed(), 384);
    }

    private static void manyCalls(int run) {
        Exact.Numbers numbers = new Exact.Numbers(run);
        ShortestDigits x = new ShortestDigits();
        Model model = new Model();
        int calls = 0;
        while (calls + 4 <= CALLS) {
            int what = numbers.next(20);
            if (what < 14) {
                int k = numbers.next(14) - 1;
                Check.due("run " + run + ": type(" + k + ")", x.type(k), model.type(k));
            } else if (what < 19) {
                Check.due("run " + run + ": back()", x.back(), model.back());
            } else {
                x.clear();
                model.text = "";
            }
            model.checkAnswers(x);
            calls += 4;
        }
    }

    /** The text as it is seen, with '.' for the point. */
    private static final class Model {
        private String text = "";

        private int type(int k) {
            if (k < 0 || k > 10) {
                return -1;
            }
            boolean full = k == 10 ? text.contains(".") : digits().length() == 8;
            if (full) {
                return -2;
            }
            text += k == 10 ? "." : String.valueOf(k);
            return digits().length();
        }

        private int back() {
            if (text.isEmpty()) {
                return -4;
            }
            char last = text.charAt(text.length() - 1);
            text = text.substring(0, text.length() - 1);
            return Texts.key(last);
        }

        private String digits() {
            return text.replace(".", "");
        }

        private int number(String digits) {
            return digits.isEmpty() ? 0 : Integer.parseInt(digits);
        }

        private int read(String digits) {
            int point = text.indexOf('.');
            int behind = point < 0 ? 0 : text.length() - point - 1;
            return Exact.read(BigDecimal.valueOf(number(digits), behind));
        }

        private int spare() {
            String digits = digits();
            int code = read(digits);
            int spare = 0;
            for (int k = 1; k <= digits.length(); k++) {
                String zeroed = digits.substring(0, digits.length() - k) + "0".repeat(k);
                if (read(zeroed) == code) {
                    spare = k;
                }
            }
            return spare;
        }

        private void checkAnswers(ShortestDigits x) {
            Check.due("typed() of '" + text + "'", x.typed(), read(digits()));
            Check.due("typedDigits() of '" + text + "'", x.typedDigits(), number(digits()));
            Check.due("spare() of '" + text + "'", x.spare(), spare());
        }
    }
}
