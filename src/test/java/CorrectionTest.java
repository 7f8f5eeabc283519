import java.util.Arrays;

/** Promises 10 to 14: distances, and what is set right. */
public final class CorrectionTest {
    public static void main(String[] args) {
        distance();
        smallErrors(1);
        smallErrors(2);
        rankTwoErrors();
        beyondRadius();
        clean();
        Check.end();
    }

    private static void distance() {
        RankMetricCode code = Check.withWord(2, 3, 9, 27, 14, 2);
        Check.due("distance(0, 0)", code.distance(0, 0), 5);
        Check.wordIs("after distance()", code, 3, 9, 27, 14, 2);
        for (int m1 = 0; m1 < 32; m1++) {
            code = Check.withWord(2, 3, 9, 27, 14, 2);
            for (int m0 = 0; m0 < 32; m0++) {
                int want = Reference.distance(new int[] {3, 9, 27, 14, 2}, Reference.codeWord(m0, m1));
                Check.due("distance(" + m0 + ", " + m1 + ")", code.distance(m0, m1), want);
            }
        }
    }

    /** Every error of rank 1, on messages that take turns. */
    private static void smallErrors(int k) {
        for (int a = 1; a < 32; a++) {
            for (int set = 1; set < 32; set++) {
                int m0 = (7 * a + set) % 32;
                int m1 = k == 1 ? 0 : (11 * set + a) % 32;
                RankMetricCode code = new RankMetricCode(k);
                code.encode(m0, m1);
                code.disturb(a, set);
                setRight(code, m0, m1, 1);
            }
        }
    }

    private static void rankTwoErrors() {
        for (int a = 1; a < 32; a++) {
            for (int set = 1; set < 32; set++) {
                int b = a == 31 ? 1 : a + 1;
                int other = set == 31 ? 1 : set + 1;
                int m0 = (5 * a + 3 * set) % 32;
                RankMetricCode one = new RankMetricCode(1);
                one.encode(m0, 0);
                one.disturb(a, set);
                one.disturb(b, other);
                setRight(one, m0, 0, 2);
            }
        }
    }

    private static void setRight(RankMetricCode code, int m0, int m1, int far) {
        String what = "K " + code.size() + ", message " + m0 + " " + m1 + ", error of rank " + far;
        int[] word = word(code);
        Check.due(what + ": clean()", code.clean(), false);
        Check.due(what + ": errors()", code.errors(), far);
        Check.due(what + ": message(0)", code.message(0), m0);
        Check.due(what + ": message(1)", code.message(1), code.size() == 1 ? -1 : m1);
        Check.due(what + ": distance()", code.distance(m0, m1), far);
        Check.wordIs(what + " before correct()", code, word);
        Check.due(what + ": correct()", code.correct(), far);
        Check.wordIs(what + " after correct()", code, Reference.codeWord(m0, m1));
        Check.due(what + ": errors() after", code.errors(), 0);
        Check.due(what + ": correct() again", code.correct(), 0);
        Check.wordIs(what + " after correct() again", code, Reference.codeWord(m0, m1));
        Check.due(what + ": clean() after", code.clean(), true);
        Check.due(what + ": message(0) after", code.message(0), m0);
    }

    private static int[] word(RankMetricCode code) {
        int[] symbols = new int[5];
        for (int i = 0; i < 5; i++) {
            symbols[i] = code.symbol(i);
        }
        return symbols;
    }

    private static void beyondRadius() {
        // The nearest code word is farther than T.
        noneFor(1, 3, 9, 27, 14, 2);
        noneFor(2, 3, 9, 27, 14, 2);
        // The word itself has rank 3, and no code word is nearer than 0 0 0 0 0.
        noneFor(1, 0, 1, 4, 2, 0);
        // Rank 2 is set right with K 1, but not with K 2.
        noneFor(2, 0, 2, 4, 8, 0);
        RankMetricCode code = Check.withWord(1, 0, 2, 4, 8, 0);
        Check.due("K 1: errors() at rank 2", code.errors(), 2);
        Check.due("K 1: message(0) at rank 2", code.message(0), 1);
    }

    private static void noneFor(int k, int... symbols) {
        String what = "K " + k + ", " + Arrays.toString(symbols);
        RankMetricCode code = Check.withWord(k, symbols);
        Check.due(what + ": errors()", code.errors(), -4);
        Check.due(what + ": message(0)", code.message(0), -4);
        Check.due(what + ": message(1)", code.message(1), k == 1 ? -1 : -4);
        Check.due(what + ": message(2)", code.message(2), -1);
        Check.due(what + ": message(-1)", code.message(-1), -1);
        Check.due(what + ": correct()", code.correct(), -4);
        Check.due(what + ": clean()", code.clean(), false);
        Check.wordIs(what + " after refusals", code, symbols);
    }

    private static void clean() {
        for (int n = 0; n < 1024; n++) {
            int[] symbols = Reference.codeWord(n % 32, n / 32);
            Check.due("K 2: clean() of code word " + n, Check.withWord(2, symbols).clean(), true);
            Check.due("K 1: clean() of code word " + n, Check.withWord(1, symbols).clean(), n < 32);
            symbols[n % 5] ^= 1 + n % 31;
            Check.due("K 2: clean() beside code word " + n, Check.withWord(2, symbols).clean(), false);
        }
    }
}
