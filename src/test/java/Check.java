/** What the tests share: counting the answers that are not as due, and ending with the verdict. */
final class Check {
    // So that one broken sentence does not hide the next.
    private static final int SHOWN_OF_EACH = 10;

    private static int wrong = 0;
    private static int made = 0;
    private static int shown = 0;
    private static String sentence = "";

    private Check() {
    }

    /** Runs the test of one sentence of the document; what it throws is its own fault alone. */
    static void sentence(String words, Runnable test) {
        sentence = words;
        shown = 0;
        int madeBefore = made;
        try {
            test.run();
        } catch (RuntimeException | Error e) {
            wrong++;
            System.out.println("[" + words + "] threw " + e);
        }
        if (made == madeBefore) {
            wrong++;
            System.out.println("[" + words + "] nothing was tested");
        }
        sentence = "";
    }

    static void due(String call, int got, int want) {
        made++;
        if (got != want) {
            wrong++;
            if (shown < SHOWN_OF_EACH) {
                shown++;
                String where = sentence.isEmpty() ? "" : "[" + sentence + "] ";
                System.out.println(where + call + " answered " + got + ", due is " + want);
            }
        }
    }

    static void due(String call, boolean got, boolean want) {
        due(call, got ? 1 : 0, want ? 1 : 0);
    }

    static void wordIs(String when, RankMetricCode code, int... symbols) {
        for (int i = 0; i < 5; i++) {
            due(when + ": symbol(" + i + ")", code.symbol(i), symbols[i]);
        }
    }

    /** A new object with these five symbols as its word. */
    static RankMetricCode withWord(int k, int... symbols) {
        RankMetricCode code = new RankMetricCode(k);
        for (int i = 0; i < 5; i++) {
            code.put(i, symbols[i]);
        }
        return code;
    }

    static void end() {
        if (made == 0) {
            System.out.println("nothing was tested");
            System.exit(1);
        }
        if (wrong != 0) {
            System.out.println(wrong + " of " + made + " answers are not as due");
            System.exit(1);
        }
    }
}
