/** Promises 15 and 16. */
public final class CountsTest {
    public static void main(String[] args) {
        coverings();
        census(1, 1, 0, 0, 0, 0, 31);
        census(2, 1, 0, 0, 0, 961, 62);
        Check.end();
    }

    private static void coverings() {
        // A code word needs no change, so every set will do.
        coveringsAre(1, 32, 0, 0, 0, 0, 0);
        coveringsAre(2, 32, 1, 2, 4, 8, 16);
        // One wrong symbol: 16 sets hold its place, and those of four (K 1) or three places always do.
        coveringsAre(1, 17, 1, 0, 0, 0, 0);
        coveringsAre(1, 17, 0, 0, 0, 0, 1);
        coveringsAre(2, 21, 0, 0, 9, 0, 0);
        // Two wrong symbols, the same added to both.
        coveringsAre(1, 10, 5, 5, 0, 0, 0);
        coveringsAre(2, 17, 5, 5, 0, 0, 0);
        coveringsAre(1, 7, 3, 9, 27, 14, 2);
        coveringsAre(2, 16, 3, 9, 27, 14, 2);
    }

    private static void coveringsAre(int k, int want, int... symbols) {
        String call = "K " + k + ", " + java.util.Arrays.toString(symbols) + ": coverings()";
        RankMetricCode code = Check.withWord(k, symbols);
        Check.due(call, code.coverings(), want);
        Check.wordIs("after " + call, code, symbols);
    }

    private static void census(int k, int... want) {
        RankMetricCode code = Check.withWord(k, 3, 9, 27, 14, 2);
        for (int r = 0; r <= 5; r++) {
            Check.due("K " + k + ": census(" + r + ")", code.census(r), want[r]);
        }
        Check.wordIs("after census()", code, 3, 9, 27, 14, 2);
        code.encode(1, 0);
        Check.due("K " + k + ": census(5) with another word", code.census(5), want[5]);
    }
}
