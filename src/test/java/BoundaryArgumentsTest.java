/** Each sentence of the document that names a range of arguments, a test of its own. */
public final class BoundaryArgumentsTest {
    private static final int[] IN_FIELD = Edges.inside(0, 31);
    private static final int[] NOT_IN_FIELD = Edges.outside(0, 31);
    private static final int[] NOT_A_PLACE = Edges.outside(0, 4);

    public static void main(String[] args) {
        Check.sentence("1: The word is 0 0 0 0 0.", BoundaryArgumentsTest::newWord);
        Check.sentence("1: k below 1 becomes 1", BoundaryArgumentsTest::kBelowOne);
        Check.sentence("1: k above 2 becomes 2", BoundaryArgumentsTest::kAboveTwo);
        Check.sentence("2: size: K", BoundaryArgumentsTest::kWithin);
        Check.sentence("3: times: BAD_ARG if one of them is not 0 to 31", BoundaryArgumentsTest::timesRange);
        Check.sentence("4: over: BAD_ARG if a or b is not 0 to 31", BoundaryArgumentsTest::overRange);
        Check.sentence("4: over: BAD_ARG if b is 0", BoundaryArgumentsTest::overZero);
        Check.sentence("5: encode: BAD_ARG if m0 is not 0 to 31", BoundaryArgumentsTest::encodeFirst);
        Check.sentence("5: encode: BAD_ARG if m1 is not 0 to 31", BoundaryArgumentsTest::encodeSecond);
        Check.sentence("5: encode: BAD_ARG if K is 1 and m1 is not 0", BoundaryArgumentsTest::encodeSecondIfKIsOne);
        Check.sentence("5: encode: Otherwise 0.", BoundaryArgumentsTest::encodeOtherwise);
        Check.sentence("6: put: BAD_ARG if i is not 0 to 4", BoundaryArgumentsTest::putPlace);
        Check.sentence("6: put: BAD_ARG if c is not 0 to 31", BoundaryArgumentsTest::putSymbol);
        Check.sentence("6: put: Otherwise the symbol before.", BoundaryArgumentsTest::putOtherwise);
        Check.sentence("7: symbol: BAD_ARG if i is not 0 to 4", BoundaryArgumentsTest::symbolRange);
        Check.sentence("8: disturb: BAD_ARG if a is not 0 to 31", BoundaryArgumentsTest::disturbAddend);
        Check.sentence("8: disturb: BAD_ARG if set is not 0 to 31", BoundaryArgumentsTest::disturbSet);
        Check.sentence("8: disturb: Otherwise the rank of the word afterwards.",
                BoundaryArgumentsTest::disturbOtherwise);
        Check.sentence("10: distance: BAD_ARG as for encode: m0 is not 0 to 31", BoundaryArgumentsTest::distanceFirst);
        Check.sentence("10: distance: BAD_ARG as for encode: m1 is not 0 to 31", BoundaryArgumentsTest::distanceSecond);
        Check.sentence("10: distance: BAD_ARG as for encode: K is 1 and m1 is not 0",
                BoundaryArgumentsTest::distanceSecondIfKIsOne);
        Check.sentence("10: distance: The distance of the word from the code word of the message m0, m1",
                BoundaryArgumentsTest::distanceOtherwise);
        Check.sentence("12: message: i not 0 to K - 1 answers BAD_ARG", BoundaryArgumentsTest::messageRange);
        Check.sentence("16: census: 0 if r is not 0 to 5", BoundaryArgumentsTest::censusRange);
        Check.end();
    }

    private static void newWord() {
        for (int k : Edges.around(1, 2)) {
            RankMetricCode code = new RankMetricCode(k);
            Check.wordIs("new RankMetricCode(" + k + ")", code, 0, 0, 0, 0, 0);
        }
    }

    private static void kBelowOne() {
        for (int k : new int[] {0, -1, -2, -3, 1 - 256, 2 - 256, 2 - 65536, Edges.MIN + 2, Edges.MIN + 1, Edges.MIN}) {
            behavesAs(1, k);
        }
    }

    private static void kAboveTwo() {
        for (int k : new int[] {3, 4, 5, 1 + 256, 1 + 65536, 1 + (1 << 24), Edges.MAX - 1, Edges.MAX}) {
            behavesAs(2, k);
        }
    }

    private static void kWithin() {
        behavesAs(1, 1);
        behavesAs(2, 2);
    }

    /** K shows in size, in what a message is, in the number of code words and in T. */
    private static void behavesAs(int size, int k) {
        String made = "new RankMetricCode(" + k + "): ";
        RankMetricCode code = new RankMetricCode(k);
        Check.due(made + "size()", code.size(), size);
        Check.due(made + "message(1)", code.message(1), size == 1 ? -1 : 0);
        Check.due(made + "encode(0, 1)", code.encode(0, 1), size == 1 ? -1 : 0);
        Check.due(made + "census(4)", code.census(4), size == 1 ? 0 : 961);
        code.encode(1, 0);
        code.put(0, 0);
        Check.due(made + "errors() at distance 1", code.errors(), 1);
        code.put(4, 0);
        Check.due(made + "errors() at distance 2", code.errors(), size == 1 ? 2 : -4);
        Check.due(made + "size() later", code.size(), size);
    }

    private static void timesRange() {
        for (int bad : NOT_IN_FIELD) {
            for (int other : Edges.around(0, 31)) {
                Edges.refused("times(" + bad + ", " + other + ")", code -> code.times(bad, other));
                Edges.refused("times(" + other + ", " + bad + ")", code -> code.times(other, bad));
            }
        }
        for (int a : IN_FIELD) {
            for (int b : IN_FIELD) {
                keepsAtBothK("times(" + a + ", " + b + ")", code -> code.times(a, b), Reference.product(a, b));
            }
        }
    }

    private static void overRange() {
        for (int bad : NOT_IN_FIELD) {
            for (int other : Edges.around(0, 31)) {
                Edges.refused("over(" + bad + ", " + other + ")", code -> code.over(bad, other));
                Edges.refused("over(" + other + ", " + bad + ")", code -> code.over(other, bad));
            }
        }
        for (int b : new int[] {1, 2, 30, 31}) {
            for (int x : IN_FIELD) {
                int a = Reference.product(b, x);
                keepsAtBothK("over(" + a + ", " + b + ")", code -> code.over(a, b), x);
            }
        }
    }

    private static void overZero() {
        for (int a = 0; a < 32; a++) {
            int dividend = a;
            Edges.refused("over(" + a + ", 0)", code -> code.over(dividend, 0));
        }
        for (int b = 1; b < 32; b++) {
            int divisor = b;
            keepsAtBothK("over(0, " + b + ")", code -> code.over(0, divisor), 0);
        }
    }

    private static void encodeFirst() {
        for (int bad : NOT_IN_FIELD) {
            Edges.refused("encode(" + bad + ", 0)", code -> code.encode(bad, 0));
            Edges.refused("encode(" + bad + ", 31)", code -> code.encode(bad, 31));
        }
    }

    private static void encodeSecond() {
        for (int bad : NOT_IN_FIELD) {
            for (int m0 : Edges.around(0, 31)) {
                Edges.refused("encode(" + m0 + ", " + bad + ")", code -> code.encode(m0, bad));
            }
        }
    }

    private static void encodeSecondIfKIsOne() {
        for (int m = 1; m < 32; m++) {
            int m1 = m;
            for (int m0 : IN_FIELD) {
                Edges.refused(1, "encode(" + m0 + ", " + m1 + ")", code -> code.encode(m0, m1));
            }
        }
    }

    private static void encodeOtherwise() {
        for (int m0 : IN_FIELD) {
            encodes(1, m0, 0);
            for (int m1 : IN_FIELD) {
                encodes(2, m0, m1);
            }
        }
    }

    private static void encodes(int k, int m0, int m1) {
        for (int[] symbols : Edges.WORDS) {
            String call = "K " + k + ": encode(" + m0 + ", " + m1 + ")";
            RankMetricCode code = Check.withWord(k, symbols);
            Check.due(call, code.encode(m0, m1), 0);
            Check.wordIs(call, code, Reference.codeWord(m0, m1));
        }
    }

    private static void putPlace() {
        for (int bad : NOT_A_PLACE) {
            for (int c : Edges.around(0, 31)) {
                Edges.refused("put(" + bad + ", " + c + ")", code -> code.put(bad, c));
            }
        }
    }

    private static void putSymbol() {
        for (int bad : NOT_IN_FIELD) {
            for (int i = 0; i < 5; i++) {
                int place = i;
                Edges.refused("put(" + i + ", " + bad + ")", code -> code.put(place, bad));
            }
        }
    }

    private static void putOtherwise() {
        for (int k = 1; k <= 2; k++) {
            for (int i = 0; i < 5; i++) {
                int[] want = {3, 9, 27, 14, 2};
                RankMetricCode code = Check.withWord(k, want);
                for (int c : new int[] {0, 0, 31, 31, 1, 30, 0}) {
                    String call = "K " + k + ": put(" + i + ", " + c + ")";
                    Check.due(call, code.put(i, c), want[i]);
                    want[i] = c;
                    Check.wordIs(call, code, want);
                }
            }
        }
    }

    private static void symbolRange() {
        for (int bad : NOT_A_PLACE) {
            Edges.refused("symbol(" + bad + ")", code -> code.symbol(bad));
        }
        for (int[] symbols : Edges.WORDS) {
            for (int i = 0; i < 5; i++) {
                int place = i;
                Edges.answersAndKeeps(1, "symbol(" + i + ")", code -> code.symbol(place), symbols[i], symbols);
                Edges.answersAndKeeps(2, "symbol(" + i + ")", code -> code.symbol(place), symbols[i], symbols);
            }
        }
    }

    private static void disturbAddend() {
        for (int bad : NOT_IN_FIELD) {
            for (int set : Edges.around(0, 31)) {
                Edges.refused("disturb(" + bad + ", " + set + ")", code -> code.disturb(bad, set));
            }
        }
    }

    private static void disturbSet() {
        for (int bad : NOT_IN_FIELD) {
            for (int a : IN_FIELD) {
                Edges.refused("disturb(" + a + ", " + bad + ")", code -> code.disturb(a, bad));
            }
        }
    }

    private static void disturbOtherwise() {
        for (int k = 1; k <= 2; k++) {
            for (int a : IN_FIELD) {
                for (int set : new int[] {0, 1, 2, 4, 8, 16, 30, 31}) {
                    disturbs(k, a, set);
                }
            }
        }
    }

    private static void disturbs(int k, int a, int set) {
        for (int[] symbols : Edges.WORDS) {
            String call = "K " + k + ": disturb(" + a + ", " + set + ")";
            int[] want = symbols.clone();
            for (int i = 0; i < 5; i++) {
                want[i] ^= (set & 1 << i) != 0 ? a : 0;
            }
            RankMetricCode code = Check.withWord(k, symbols);
            Check.due(call, code.disturb(a, set), Reference.rank(want));
            Check.wordIs(call, code, want);
        }
    }

    private static void distanceFirst() {
        for (int bad : NOT_IN_FIELD) {
            Edges.refused("distance(" + bad + ", 0)", code -> code.distance(bad, 0));
            Edges.refused("distance(" + bad + ", 31)", code -> code.distance(bad, 31));
        }
    }

    private static void distanceSecond() {
        for (int bad : NOT_IN_FIELD) {
            for (int m0 : Edges.around(0, 31)) {
                Edges.refused("distance(" + m0 + ", " + bad + ")", code -> code.distance(m0, bad));
            }
        }
    }

    private static void distanceSecondIfKIsOne() {
        for (int m = 1; m < 32; m++) {
            int m1 = m;
            for (int m0 : IN_FIELD) {
                Edges.refused(1, "distance(" + m0 + ", " + m1 + ")", code -> code.distance(m0, m1));
            }
        }
    }

    private static void distanceOtherwise() {
        for (int[] symbols : Edges.WORDS) {
            for (int m0 : IN_FIELD) {
                for (int m1 : IN_FIELD) {
                    int want = Reference.distance(symbols, Reference.codeWord(m0, m1));
                    String call = "distance(" + m0 + ", " + m1 + ")";
                    Edges.answersAndKeeps(2, call, code -> code.distance(m0, m1), want, symbols);
                    if (m1 == 0) {
                        Edges.answersAndKeeps(1, call, code -> code.distance(m0, m1), want, symbols);
                    }
                }
            }
        }
    }

    private static void messageRange() {
        for (int k = 1; k <= 2; k++) {
            for (int bad : Edges.outside(0, k - 1)) {
                Edges.refused(k, "message(" + bad + ")", code -> code.message(bad));
            }
        }
        int[] one = Reference.codeWord(31, 0);
        int[] two = Reference.codeWord(31, 30);
        Edges.answersAndKeeps(1, "message(0)", code -> code.message(0), 31, one);
        Edges.answersAndKeeps(2, "message(0)", code -> code.message(0), 31, two);
        Edges.answersAndKeeps(2, "message(1)", code -> code.message(1), 30, two);
    }

    private static void censusRange() {
        for (int bad : Edges.outside(0, 5)) {
            keepsAtBothK("census(" + bad + ")", code -> code.census(bad), 0);
        }
        keepsAtBothK("census(0)", code -> code.census(0), 1);
        Edges.answersAndKeeps(1, "census(5)", code -> code.census(5), 31, 0, 0, 0, 0, 0);
        Edges.answersAndKeeps(2, "census(5)", code -> code.census(5), 62, 0, 0, 0, 0, 0);
    }

    private static void keepsAtBothK(String what, Edges.Call call, int want) {
        for (int[] symbols : Edges.WORDS) {
            Edges.answersAndKeeps(1, what, call, want, symbols);
            Edges.answersAndKeeps(2, what, call, want, symbols);
        }
    }
}
