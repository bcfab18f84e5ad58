/** Compares answers with those that are due, and ends the program with 1 if one was wrong. */
final class Due {
    private static final int MOST_PRINTED = 12;
    private static String sentence = "";
    private static int printed = 0;
    private static int asked = 0;
    private static int wrong = 0;

    private Due() {
    }

    /** Names where the document says, and with which words, what the answers from here on are. */
    static void says(String where, String words) {
        sentence = where + ", \"" + words + "\": ";
        printed = 0;
    }

    static void due(String call, long got, long want) {
        due(call, Long.toString(got), Long.toString(want));
    }

    static void due(String call, String got, String want) {
        asked++;
        if (got.equals(want)) {
            return;
        }
        wrong++;
        printed++;
        if (printed <= MOST_PRINTED) {
            System.out.println(sentence + call + " answered " + got + ", due is " + want);
        }
    }

    static boolean anyWrong() {
        return wrong > 0;
    }

    static void finish() {
        System.out.println(asked + " answers, " + wrong + " not as due");
        if (wrong != 0) {
            System.exit(1);
        }
    }
}
