/** Holds answers against those that are due, and tells of each wrong one which sentence of the document it breaks. */
final class Due {
    // One broken sentence must not hide the others, nor flood the report.
    private static final int SHOWN_OF_ONE = 3;
    private static final int SHOWN = 200;

    private static String sentence = "";
    private static int wrongOfOne = 0;
    private static int shown = 0;
    private static int wrong = 0;

    private Due() {
    }

    /** The answers from here on are due by this sentence. */
    static void says(String where, String words) {
        sentence = where + ", \"" + words + "\"";
        wrongOfOne = 0;
    }

    static void due(String call, int got, int want) {
        if (got != want) {
            tell(call + " answered " + got + ", due is " + want);
        }
    }

    static void due(String call, boolean got, boolean want) {
        if (got != want) {
            tell(call + " answered " + got + ", due is " + want);
        }
    }

    private static void tell(String what) {
        wrong++;
        wrongOfOne++;
        if (wrongOfOne <= SHOWN_OF_ONE && shown < SHOWN) {
            shown++;
            System.out.println(sentence + ": " + what);
        }
    }

    static void end() {
        System.out.println(wrong == 0 ? "all answers are as due" : wrong + " answers are not as due");
        if (wrong != 0) {
            System.exit(1);
        }
    }
}
