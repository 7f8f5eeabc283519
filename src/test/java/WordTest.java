/** Promises 5 to 9: making the word, reading it, and its rank. */
public final class WordTest {
    public static void main(String[] args) {
        encodeAll(1);
        encodeAll(2);
        for (int k = 1; k <= 2; k++) {
            putAndSymbol(k);
            disturb(k);
            rank(k);
        }
        Check.end();
    }

    private static void encodeAll(int k) {
        for (int m1 = 0; m1 < (k == 1 ? 1 : 32); m1++) {
            RankMetricCode code = Check.withWord(k, 3, 9, 27, 14, 2);
            for (int m0 = 0; m0 < 32; m0++) {
                String call = "K " + k + ": encode(" + m0 + ", " + m1 + ")";
                Check.due(call, code.encode(m0, m1), 0);
                Check.wordIs(call, code, Reference.codeWord(m0, m1));
            }
        }
    }

    private static void putAndSymbol(int k) {
        RankMetricCode code = new RankMetricCode(k);
        Check.due("put(0, 31)", code.put(0, 31), 0);
        Check.due("put(0, 7)", code.put(0, 7), 31);
        Check.due("put(4, 12)", code.put(4, 12), 0);
        Check.due("put(4, 12) again", code.put(4, 12), 12);
        Check.due("put(2, 1)", code.put(2, 1), 0);
        Check.due("put(2, 0)", code.put(2, 0), 1);
        Check.wordIs("after puts", code, 7, 0, 0, 0, 12);
    }

    private static void disturb(int k) {
        RankMetricCode code = Check.withWord(k, 1, 2, 4, 8, 16);
        Check.due("disturb(0, 31)", code.disturb(0, 31), 5);
        Check.due("disturb(31, 0)", code.disturb(31, 0), 5);
        Check.wordIs("after adding nothing", code, 1, 2, 4, 8, 16);
        Check.due("disturb(1, 1)", code.disturb(1, 1), 4);
        Check.due("disturb(16, 16)", code.disturb(16, 16), 3);
        Check.wordIs("after two disturbs", code, 0, 2, 4, 8, 0);
        Check.due("disturb(6, 10)", code.disturb(6, 10), 2);
        Check.wordIs("after a third one", code, 0, 4, 4, 14, 0);
        Check.due("disturb(6, 10) again", code.disturb(6, 10), 3);
        Check.wordIs("after undoing it", code, 0, 2, 4, 8, 0);
        Check.due("disturb(31, 31)", code.disturb(31, 31), 4);
        Check.wordIs("after disturbing all", code, 31, 29, 27, 23, 31);
    }

    private static void rank(int k) {
        rankIs(k, 0, 0, 0, 0, 0, 0);
        rankIs(k, 1, 0, 0, 0, 0, 31);
        rankIs(k, 1, 7, 7, 0, 7, 7);
        rankIs(k, 2, 1, 2, 3, 0, 3);
        rankIs(k, 2, 3, 3, 5, 5, 6);
        rankIs(k, 3, 1, 2, 3, 4, 7);
        rankIs(k, 4, 3, 6, 12, 24, 17);
        rankIs(k, 4, 1, 2, 4, 8, 15);
        rankIs(k, 5, 16, 8, 4, 2, 1);
        rankIs(k, 5, 31, 15, 7, 3, 1);
    }

    private static void rankIs(int k, int want, int... symbols) {
        RankMetricCode code = Check.withWord(k, symbols);
        Check.due("rank of " + java.util.Arrays.toString(symbols), code.rank(), want);
        Check.wordIs("after rank()", code, symbols);
    }
}
