/** Compares answers with those that are due, prints the wrong ones, and ends the test. */
final class Due {
    // Of one sentence; enough to see what is wrong, without flooding the log when everything is.
    private static final int MOST_PRINTED = 10;

    private static int checked = 0;
    private static int wrong = 0;
    private static int printed = 0;
    private static String sentence = "";

    private Due() {
    }

    /**
     * A test of its own for one sentence of the document. What it throws is told as its failure, so
     * that the tests after it still run.
     */
    static void test(String ofSentence, Runnable body) {
        int checkedBefore = checked;
        sentence = "[" + ofSentence + "] ";
        printed = 0;
        try {
            body.run();
        } catch (RuntimeException thrown) {
            tellWrong("threw " + thrown);
        }
        if (checked == checkedBefore) {
            tellWrong("checked nothing");
        }
        sentence = "";
    }

    static void is(String call, int want, int got) {
        checked++;
        if (got != want) {
            tellWrong(call + " answered " + got + ", due is " + want);
        }
    }

    static void is(String call, boolean want, boolean got) {
        is(call, want ? 1 : 0, got ? 1 : 0);
    }

    static void end() {
        System.out.println(checked + " answers, " + wrong + " not as due");
        // A test that checks nothing has not passed.
        if (wrong != 0 || checked == 0) {
            System.exit(1);
        }
    }

    private static void tellWrong(String what) {
        wrong++;
        printed++;
        if (printed <= MOST_PRINTED) {
            System.out.println(sentence + what);
        }
    }
}
