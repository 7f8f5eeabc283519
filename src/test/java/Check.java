/** What the tests share: counting the answers that are not as due, and ending with the verdict. */
final class Check {
    /** Values that are outside every range of the document. */
    static final int[] OUTSIDE = {-1, 32, 33, 63, 64, -32, 1 << 16, Integer.MAX_VALUE, Integer.MIN_VALUE};

    private static int wrong = 0;
    private static int made = 0;

    private Check() {
    }

    static void due(String call, int got, int want) {
        made++;
        if (got != want) {
            wrong++;
            if (wrong <= 50) {
                System.out.println(call + " answered " + got + ", due is " + want);
            }
        }
    }

    static void due(String call, boolean got, boolean want) {
        due(call, got ? 1 : 0, want ? 1 : 0);
    }

    static void wordIs(String when, RankMetricCode code, int... symbols) {
        for (int i = 0; i < 5; i++) {
            due(when + ": symbol(" + i + ")", code.symbol(i), symbols[i]);
        }
    }

    /** A new object with these five symbols as its word. */
    static RankMetricCode withWord(int k, int... symbols) {
        RankMetricCode code = new RankMetricCode(k);
        for (int i = 0; i < 5; i++) {
            code.put(i, symbols[i]);
        }
        return code;
    }

    static void end() {
        if (made == 0) {
            System.out.println("nothing was tested");
            System.exit(1);
        }
        if (wrong != 0) {
            System.out.println(wrong + " of " + made + " answers are not as due");
            System.exit(1);
        }
    }
}
