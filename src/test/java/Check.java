/** Counts the answers that are not the due ones; if there are any, a test ends with exit code 1. */
final class Check {
    private static final int SHOWN = 20;
    private static int checked = 0;
    private static int wrong = 0;
    private static int shown = 0;
    private static int sentences = 0;
    private static int checkedBefore = 0;
    private static String sentence = "";

    private Check() {
    }

    /** What follows, up to the next such call, tests this sentence of the document. */
    static void sentence(String words) {
        endSentence();
        sentences++;
        sentence = words;
        shown = 0;
    }

    static void due(String call, long got, long want) {
        checked++;
        if (got == want) {
            return;
        }
        wrong++;
        shown++;
        if (shown <= SHOWN) {
            String told = sentence.isEmpty() ? "" : "[" + sentence + "] ";
            System.out.println(told + call + " answered " + got + ", due is " + want);
        }
    }

    static void due(String call, boolean got, boolean want) {
        due(call, got ? 1 : 0, want ? 1 : 0);
    }

    static void end() {
        endSentence();
        String told = sentences == 0 ? "" : sentences + " sentences, ";
        System.out.println(told + checked + " answers checked, " + wrong + " not as due");
        if (wrong != 0 || checked == 0) {
            System.exit(1);
        }
    }

    /** A sentence without an answer checked is not tested, which counts as wrong. */
    private static void endSentence() {
        if (sentences > 0 && checked == checkedBefore) {
            wrong++;
            System.out.println("[" + sentence + "] has no test");
        }
        checkedBefore = checked;
    }
}
