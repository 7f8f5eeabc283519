import java.util.Arrays;

/** Each sentence of the document that names a boundary of what the word may be, a test of its own. */
public final class BoundaryWordsTest {
    public static void main(String[] args) {
        Check.sentence("Terms: reduced modulo z^5 + z^2 + 1. So 2 times 16 is 5.",
                BoundaryWordsTest::productWrapsAround);
        Check.sentence("Terms: c i = m0 times g i + m1 times the square of g i", BoundaryWordsTest::squareWrapsAround);
        Check.sentence("8: disturb: an empty set, or nothing to add, changes no symbol",
                BoundaryWordsTest::disturbNothing);
        Check.sentence("8: disturb: digit 0 is the lowest", BoundaryWordsTest::disturbLowestDigit);
        Check.sentence("9: rank: The rank of the word, 0 to 5.", BoundaryWordsTest::rankAtItsEnds);
        Check.sentence("Terms: no sum of one or more of these (each taken once) is 0",
                BoundaryWordsTest::rankCountsNoSumOfZero);
        Check.sentence("Terms: at most one code word has distance T or less from a word.",
                BoundaryWordsTest::atMostOneWithinT);
        Check.sentence("11: errors: The distance of the word from the nearest code word if that is at most T",
                BoundaryWordsTest::errorsAtMostT);
        Check.sentence("11: errors: else NONE", BoundaryWordsTest::errorsElseNone);
        Check.sentence("11: errors: the nearest code word", BoundaryWordsTest::errorsNearest);
        Check.sentence("12: message: Tested in this order: BAD_ARG, then NONE", BoundaryWordsTest::messageOrder);
        Check.sentence("12: message: no such code word answers NONE", BoundaryWordsTest::messageNone);
        Check.sentence("12: message: Element number i of the message whose code word has a distance of at most T",
                BoundaryWordsTest::messageAtT);
        Check.sentence("13: correct: NONE if there is none.", BoundaryWordsTest::correctNone);
        Check.sentence("13: correct: Otherwise its old distance.", BoundaryWordsTest::correctOldDistance);
        Check.sentence("14: clean: Whether the word is a code word.", BoundaryWordsTest::cleanCodeWord);
        Check.sentence("15: coverings: sets S, numbers 0 to 31: all of them if no symbol need change",
                BoundaryWordsTest::coveringsOfCodeWord);
        Check.sentence("15: coverings: the fewest: K symbols left alone can always be those of a code word",
                BoundaryWordsTest::coveringsAtLeast);
        Check.sentence("15: coverings: digit i for place i", BoundaryWordsTest::coveringsOnePlace);
        Check.sentence("16: census: How many code words have the rank r", BoundaryWordsTest::censusOfAllRanks);
        Check.end();
    }

    private static void productWrapsAround() {
        int[][] products = {{2, 8, 16}, {2, 16, 5}, {4, 16, 10}, {8, 16, 20}, {16, 16, 13}, {2, 31, 27}, {31, 31, 18}};
        for (int k = 1; k <= 2; k++) {
            RankMetricCode code = new RankMetricCode(k);
            for (int[] p : products) {
                Check.due("times(" + p[0] + ", " + p[1] + ")", code.times(p[0], p[1]), p[2]);
                Check.due("times(" + p[1] + ", " + p[0] + ")", code.times(p[1], p[0]), p[2]);
                Check.due("over(" + p[2] + ", " + p[0] + ")", code.over(p[2], p[0]), p[1]);
                Check.due("over(" + p[2] + ", " + p[1] + ")", code.over(p[2], p[1]), p[0]);
            }
        }
    }

    private static void squareWrapsAround() {
        encodesAs(1, 1, 0, 1, 2, 4, 8, 16);
        encodesAs(1, 31, 0, 31, 27, 19, 3, 6);
        encodesAs(2, 0, 1, 1, 4, 16, 10, 13);
        encodesAs(2, 0, 31, 31, 19, 6, 24, 15);
        encodesAs(2, 31, 31, 0, 8, 21, 27, 9);
        encodesAs(1, 0, 0, 0, 0, 0, 0, 0);
        encodesAs(2, 0, 0, 0, 0, 0, 0, 0);
    }

    private static void encodesAs(int k, int m0, int m1, int... symbols) {
        RankMetricCode code = Check.withWord(k, 3, 9, 27, 14, 2);
        String call = "K " + k + ": encode(" + m0 + ", " + m1 + ")";
        Check.due(call, code.encode(m0, m1), 0);
        Check.wordIs(call, code, symbols);
    }

    private static void disturbNothing() {
        for (int[] symbols : Edges.WORDS) {
            for (int n = 0; n < 32; n++) {
                int any = n;
                int want = Reference.rank(symbols);
                Edges.answersAndKeeps(1, "disturb(" + n + ", 0)", code -> code.disturb(any, 0), want, symbols);
                Edges.answersAndKeeps(2, "disturb(0, " + n + ")", code -> code.disturb(0, any), want, symbols);
            }
        }
    }

    private static void disturbLowestDigit() {
        for (int k = 1; k <= 2; k++) {
            RankMetricCode code = new RankMetricCode(k);
            Check.due("disturb(31, 1)", code.disturb(31, 1), 1);
            Check.wordIs("after disturb(31, 1)", code, 31, 0, 0, 0, 0);
            Check.due("disturb(1, 16)", code.disturb(1, 16), 2);
            Check.wordIs("after disturb(1, 16)", code, 31, 0, 0, 0, 1);
            Check.due("disturb(31, 31)", code.disturb(31, 31), 2);
            Check.wordIs("after disturb(31, 31)", code, 0, 31, 31, 31, 30);
            Check.due("disturb(31, 15)", code.disturb(31, 15), 2);
            Check.wordIs("after disturb(31, 15)", code, 31, 0, 0, 0, 30);
            Check.due("disturb(31, 1) again", code.disturb(31, 1), 1);
            Check.due("disturb(30, 16)", code.disturb(30, 16), 0);
            Check.wordIs("after all is undone", code, 0, 0, 0, 0, 0);
        }
    }

    private static void rankAtItsEnds() {
        rankIs(0, 0, 0, 0, 0, 0);
        for (int a = 1; a < 32; a++) {
            rankIs(1, a, 0, 0, 0, 0);
            rankIs(1, 0, 0, 0, 0, a);
            rankIs(1, a, a, a, a, a);
        }
        rankIs(4, 1, 2, 4, 8, 0);
        rankIs(4, 0, 2, 4, 8, 16);
        rankIs(5, 1, 2, 4, 8, 16);
        rankIs(5, 16, 24, 28, 30, 31);
        rankIs(5, 31, 30, 28, 24, 16);
    }

    private static void rankCountsNoSumOfZero() {
        rankIs(3, 0, 1, 2, 4, 0);
        rankIs(4, 9, 9, 1, 2, 4);
        rankIs(4, 1, 9, 2, 4, 9);
        rankIs(4, 5, 9, 12, 1, 2);
        rankIs(4, 1, 2, 8, 11, 16);
        rankIs(4, 1, 2, 4, 8, 15);
        rankIs(4, 3, 6, 12, 24, 17);
        rankIs(2, 1, 2, 3, 2, 1);
        rankIs(3, 7, 6, 5, 3, 1);
    }

    private static void rankIs(int want, int... symbols) {
        Edges.answersAndKeeps(1, "rank()", RankMetricCode::rank, want, symbols);
        Edges.answersAndKeeps(2, "rank()", RankMetricCode::rank, want, symbols);
        Edges.answersAndKeeps(1, "distance(0, 0)", code -> code.distance(0, 0), want, symbols);
        Edges.answersAndKeeps(2, "distance(0, 0)", code -> code.distance(0, 0), want, symbols);
    }

    private static void atMostOneWithinT() {
        int[] withinTwo = {1, 1, 1, 0};
        int[] withinOne = {1, 1, 0, 0};
        for (int n = 0; n < Edges.WORDS.length; n++) {
            int[] symbols = Edges.WORDS[n];
            String title = "code words near " + Arrays.toString(symbols);
            Check.due("K 1: " + title, countWithin(1, 2, symbols), withinTwo[n]);
            Check.due("K 2: " + title, countWithin(2, 1, symbols), withinOne[n]);
        }
    }

    private static int countWithin(int k, int limit, int[] symbols) {
        int count = 0;
        for (int m1 = 0; m1 < (k == 1 ? 1 : 32); m1++) {
            RankMetricCode code = Check.withWord(k, symbols);
            for (int m0 = 0; m0 < 32; m0++) {
                count += code.distance(m0, m1) <= limit ? 1 : 0;
            }
        }
        return count;
    }

    private static void errorsAtMostT() {
        for (int n = 0; n < 32; n++) {
            int m1 = 31 - n;
            errorsAre(1, 0, beside(n, 0, 0));
            errorsAre(1, 1, beside(n, 0, 1));
            errorsAre(1, 2, beside(n, 0, 2));
            errorsAre(2, 0, beside(n, m1, 0));
            errorsAre(2, 1, beside(n, m1, 1));
        }
    }

    private static void errorsElseNone() {
        for (int n = 0; n < 32; n++) {
            errorsAre(2, -4, beside(n, 31 - n, 2));
        }
        // With K 1 these have distance 3 from 0 0 0 0 0, and no code word is nearer.
        errorsAre(1, -4, 0, 1, 4, 2, 0);
        errorsAre(1, -4, 1, 1, 2, 2, 4);
        errorsAre(1, -4, 3, 9, 27, 14, 2);
        errorsAre(2, -4, 3, 9, 27, 14, 2);
    }

    private static void errorsNearest() {
        // Distance 3 from the code word of 0, but 2 from that of 1.
        Edges.answersAndKeeps(1, "distance(0, 0)", code -> code.distance(0, 0), 3, 0, 2, 4, 8, 0);
        Edges.answersAndKeeps(1, "distance(1, 0)", code -> code.distance(1, 0), 2, 0, 2, 4, 8, 0);
        errorsAre(1, 2, 0, 2, 4, 8, 0);
        // Code words at the end of the messages' order, with their neighbours.
        errorsAre(1, 0, Reference.codeWord(31, 0));
        errorsAre(2, 0, Reference.codeWord(31, 31));
        errorsAre(2, 1, beside(31, 31, 1));
        errorsAre(2, 1, beside(0, 31, 1));
    }

    private static void errorsAre(int k, int want, int... symbols) {
        Edges.answersAndKeeps(k, "errors()", RankMetricCode::errors, want, symbols);
    }

    /** The code word with an error of this rank, at places that change with the message. */
    private static int[] beside(int m0, int m1, int rank) {
        int[] symbols = Reference.codeWord(m0, m1);
        for (int r = 0; r < rank; r++) {
            symbols[(m0 + r) % 5] ^= 1 << r;
            symbols[(m0 + r + 2) % 5] ^= 1 << r;
        }
        return symbols;
    }

    private static void messageOrder() {
        int[] far = {3, 9, 27, 14, 2};
        for (int k = 1; k <= 2; k++) {
            for (int bad : Edges.outside(0, k - 1)) {
                Edges.answersAndKeeps(k, "message(" + bad + ")", code -> code.message(bad), -1, far);
            }
        }
    }

    private static void messageNone() {
        Edges.answersAndKeeps(1, "message(0)", code -> code.message(0), -4, 3, 9, 27, 14, 2);
        Edges.answersAndKeeps(1, "message(0)", code -> code.message(0), -4, 0, 1, 4, 2, 0);
        for (int n = 0; n < 32; n++) {
            int[] far = beside(n, 31 - n, 2);
            Edges.answersAndKeeps(2, "message(0)", code -> code.message(0), -4, far);
            Edges.answersAndKeeps(2, "message(1)", code -> code.message(1), -4, far);
        }
    }

    private static void messageAtT() {
        for (int n = 0; n < 32; n++) {
            int m0 = n;
            int m1 = 31 - n;
            for (int far = 0; far <= 2; far++) {
                Edges.answersAndKeeps(1, "message(0)", code -> code.message(0), m0, beside(m0, 0, far));
            }
            for (int far = 0; far <= 1; far++) {
                Edges.answersAndKeeps(2, "message(0)", code -> code.message(0), m0, beside(m0, m1, far));
                Edges.answersAndKeeps(2, "message(1)", code -> code.message(1), m1, beside(m0, m1, far));
            }
        }
    }

    private static void correctNone() {
        Edges.answersAndKeeps(1, "correct()", RankMetricCode::correct, -4, 3, 9, 27, 14, 2);
        Edges.answersAndKeeps(1, "correct()", RankMetricCode::correct, -4, 0, 1, 4, 2, 0);
        for (int n = 0; n < 32; n++) {
            Edges.answersAndKeeps(2, "correct()", RankMetricCode::correct, -4, beside(n, 31 - n, 2));
        }
    }

    private static void correctOldDistance() {
        for (int n = 0; n < 32; n++) {
            for (int far = 0; far <= 2; far++) {
                corrects(1, far, beside(n, 0, far), Reference.codeWord(n, 0));
            }
            for (int far = 0; far <= 1; far++) {
                corrects(2, far, beside(n, 31 - n, far), Reference.codeWord(n, 31 - n));
            }
        }
    }

    private static void corrects(int k, int far, int[] symbols, int[] want) {
        String title = "K " + k + ", word " + Arrays.toString(symbols) + ": correct()";
        RankMetricCode code = Check.withWord(k, symbols);
        Check.due(title, code.correct(), far);
        Check.wordIs(title, code, want);
        Check.due(title + " again", code.correct(), 0);
        Check.wordIs(title + " again", code, want);
    }

    private static void cleanCodeWord() {
        for (int n = 0; n < 32; n++) {
            cleanIs(1, true, Reference.codeWord(n, 0));
            cleanIs(2, true, Reference.codeWord(n, 31 - n));
            // A code word of K 2 is one of K 1 only if its second element is 0.
            cleanIs(1, n == 31, Reference.codeWord(n, 31 - n));
            for (int far = 1; far <= 2; far++) {
                cleanIs(1, false, beside(n, 0, far));
                cleanIs(2, false, beside(n, 31 - n, far));
            }
        }
        // One digit of one symbol is enough.
        for (int i = 0; i < 5; i++) {
            for (int digit = 0; digit < 5; digit++) {
                int[] symbols = Reference.codeWord(31, 0);
                symbols[i] ^= 1 << digit;
                cleanIs(1, false, symbols);
                cleanIs(2, false, symbols);
            }
        }
    }

    private static void cleanIs(int k, boolean want, int... symbols) {
        Edges.answersAndKeeps(k, "clean()", code -> code.clean() ? 1 : 0, want ? 1 : 0, symbols);
    }

    private static void coveringsOfCodeWord() {
        for (int n = 0; n < 32; n++) {
            coveringsAre(1, 32, Reference.codeWord(n, 0));
            coveringsAre(2, 32, Reference.codeWord(n, 31 - n));
        }
    }

    private static void coveringsAtLeast() {
        coveringsAre(1, 6, 1, 1, 1, 1, 1);
        coveringsAre(1, 6, 0, 1, 1, 1, 1);
        coveringsAre(2, 16, 1, 1, 1, 1, 1);
        coveringsAre(2, 16, 3, 9, 27, 14, 2);
        coveringsAre(2, 16, 1, 1, 1, 0, 0);
    }

    private static void coveringsOnePlace() {
        for (int i = 0; i < 5; i++) {
            for (int a = 1; a < 32; a += 6) {
                int[] symbols = new int[5];
                symbols[i] = a;
                coveringsAre(1, 17, symbols);
                coveringsAre(2, 21, symbols);
            }
        }
    }

    private static void coveringsAre(int k, int want, int... symbols) {
        Edges.answersAndKeeps(k, "coverings()", RankMetricCode::coverings, want, symbols);
    }

    private static void censusOfAllRanks() {
        int[] one = {1, 0, 0, 0, 0, 31};
        int[] two = {1, 0, 0, 0, 961, 62};
        for (int r = 0; r <= 5; r++) {
            int rank = r;
            for (int[] symbols : Edges.WORDS) {
                Edges.answersAndKeeps(1, "census(" + r + ")", code -> code.census(rank), one[r], symbols);
                Edges.answersAndKeeps(2, "census(" + r + ")", code -> code.census(rank), two[r], symbols);
            }
        }
    }
}
