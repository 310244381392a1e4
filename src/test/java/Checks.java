/** Counts and prints the answers that are not as due; a test's main method ends with finish(). */
final class Checks {
    private static final int MOST_PRINTED = 50;

    private static String sentence = "";
    private static int madeBefore = 0;
    private static int made = 0;
    private static int wrong = 0;

    private Checks() {
    }

    /** The sentence of the document that the checks from here on are about. */
    static void sentence(String words) {
        endSentence();
        sentence = words;
    }

    static void due(String what, long got, long want) {
        made++;
        if (got != want) {
            fail(what + " answered " + got + ", due is " + want);
        }
    }

    static void due(String what, String got, String want) {
        made++;
        if (!got.equals(want)) {
            fail(what + " is " + got + ", due is " + want);
        }
    }

    static void finish() {
        endSentence();
        System.out.println(made + " answers looked at, " + wrong + " not as due");
        if (wrong != 0 || made == 0) {
            System.exit(1);
        }
    }

    /** A sentence that nothing was asked about is no test. */
    private static void endSentence() {
        if (!sentence.isEmpty() && made == madeBefore) {
            fail("nothing was asked");
        }
        madeBefore = made;
    }

    private static void fail(String what) {
        wrong++;
        if (wrong <= MOST_PRINTED) {
            System.out.println((sentence.isEmpty() ? "" : "\"" + sentence + "\": ") + what);
        }
    }
}
