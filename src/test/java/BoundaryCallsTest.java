import java.util.ArrayList;
import java.util.List;

/** The sentences of the document that hold for every call, a test of its own for each. */
public final class BoundaryCallsTest {
    private static final int CALLS = 512;

    public static void main(String[] args) {
        Check.sentence("Terms: No call ever throws.", BoundaryCallsTest::noCallThrows);
        Check.sentence("Terms: A refused call answers the code named and changes nothing.",
                BoundaryCallsTest::refusedCallChangesNothing);
        Check.sentence("2 to 4, 7, 9 to 12, 14 to 16: a call that only answers leaves the word",
                BoundaryCallsTest::readingCallChangesNothing);
        Check.sentence("What it is: at most 512 calls: refused ones count, and the last is answered",
                BoundaryCallsTest::lastCallAfterRefusedOnes);
        Check.sentence("What it is: at most 512 calls: the same call up to the last",
                BoundaryCallsTest::lastCallAfterItself);
        Check.sentence("What it is: at most 512 calls: errors made and set right up to the last",
                BoundaryCallsTest::lastChange);
        Check.end();
    }

    /** A call with its name, and what a reference answers to the same. */
    private record Both(String name, Edges.Call call, ReferenceCall due) {
    }

    private interface ReferenceCall {
        int on(Reference reference);
    }

    /** Every method of the face, each argument at the ends of its range and outside. */
    private static List<Both> everyCall() {
        List<Both> calls = readingCalls();
        calls.add(new Both("correct()", RankMetricCode::correct, Reference::correct));
        for (int a : Edges.around(0, 31)) {
            for (int b : Edges.around(0, 31)) {
                String pair = "(" + a + ", " + b + ")";
                calls.add(new Both("encode" + pair, x -> x.encode(a, b), x -> x.encode(a, b)));
                calls.add(new Both("disturb" + pair, x -> x.disturb(a, b), x -> x.disturb(a, b)));
            }
            for (int i : Edges.around(0, 4)) {
                calls.add(new Both("put(" + i + ", " + a + ")", x -> x.put(i, a), x -> x.put(i, a)));
            }
        }
        return calls;
    }

    private static List<Both> readingCalls() {
        List<Both> calls = new ArrayList<>();
        calls.add(new Both("size()", RankMetricCode::size, x -> x.k));
        calls.add(new Both("rank()", RankMetricCode::rank, x -> Reference.rank(x.word)));
        calls.add(new Both("errors()", RankMetricCode::errors, Reference::errors));
        calls.add(new Both("clean()", x -> x.clean() ? 1 : 0, x -> x.clean() ? 1 : 0));
        calls.add(new Both("coverings()", RankMetricCode::coverings, Reference::coverings));
        for (int a : Edges.around(0, 31)) {
            for (int b : Edges.around(0, 31)) {
                String pair = "(" + a + ", " + b + ")";
                calls.add(new Both("times" + pair, x -> x.times(a, b), x -> Reference.times(a, b)));
                calls.add(new Both("over" + pair, x -> x.over(a, b), x -> Reference.over(a, b)));
                calls.add(new Both("distance" + pair, x -> x.distance(a, b), x -> x.distance(a, b)));
            }
        }
        for (int i : Edges.around(0, 4)) {
            calls.add(new Both("symbol(" + i + ")", x -> x.symbol(i), x -> x.symbol(i)));
            calls.add(new Both("message(" + i + ")", x -> x.message(i), x -> x.message(i)));
        }
        for (int r : Edges.around(0, 5)) {
            calls.add(new Both("census(" + r + ")", x -> x.census(r), x -> x.census(r)));
        }
        return calls;
    }

    private static void noCallThrows() {
        for (int k : new int[] {Edges.MIN, 0, 1, 2, 3, Edges.MAX}) {
            for (int[] symbols : Edges.WORDS) {
                for (Both both : everyCall()) {
                    RankMetricCode code = Check.withWord(k, symbols);
                    boolean thrown = false;
                    try {
                        both.call.on(code);
                    } catch (RuntimeException | Error e) {
                        thrown = true;
                    }
                    Check.due("k " + k + ": " + both.name + " throws", thrown, false);
                }
            }
        }
    }

    private static void refusedCallChangesNothing() {
        for (int k = 1; k <= 2; k++) {
            for (int[] symbols : Edges.WORDS) {
                Reference reference = new Reference(k);
                for (Both both : everyCall()) {
                    System.arraycopy(symbols, 0, reference.word, 0, 5);
                    int want = both.due.on(reference);
                    if (want == Edges.BAD_ARG || want == Edges.NONE) {
                        Edges.answersAndKeeps(k, both.name, both.call, want, symbols);
                    }
                }
            }
        }
    }

    private static void readingCallChangesNothing() {
        for (int k = 1; k <= 2; k++) {
            for (int[] symbols : Edges.WORDS) {
                Reference reference = new Reference(k);
                System.arraycopy(symbols, 0, reference.word, 0, 5);
                for (Both both : readingCalls()) {
                    Edges.answersAndKeeps(k, both.name, both.call, both.due.on(reference), symbols);
                }
            }
        }
    }

    /** One call of each method that is answered as it should be, and changes the word if it can. */
    private static List<Both> oneOfEach() {
        List<Both> calls = new ArrayList<>();
        calls.add(new Both("size()", RankMetricCode::size, x -> x.k));
        calls.add(new Both("times(31, 30)", x -> x.times(31, 30), x -> Reference.times(31, 30)));
        calls.add(new Both("over(31, 30)", x -> x.over(31, 30), x -> Reference.over(31, 30)));
        calls.add(new Both("encode(31, 0)", x -> x.encode(31, 0), x -> x.encode(31, 0)));
        calls.add(new Both("put(4, 31)", x -> x.put(4, 31), x -> x.put(4, 31)));
        calls.add(new Both("symbol(4)", x -> x.symbol(4), x -> x.symbol(4)));
        calls.add(new Both("disturb(31, 31)", x -> x.disturb(31, 31), x -> x.disturb(31, 31)));
        calls.add(new Both("rank()", RankMetricCode::rank, x -> Reference.rank(x.word)));
        calls.add(new Both("distance(31, 0)", x -> x.distance(31, 0), x -> x.distance(31, 0)));
        calls.add(new Both("errors()", RankMetricCode::errors, Reference::errors));
        calls.add(new Both("message(0)", x -> x.message(0), x -> x.message(0)));
        calls.add(new Both("correct()", RankMetricCode::correct, Reference::correct));
        calls.add(new Both("clean()", x -> x.clean() ? 1 : 0, x -> x.clean() ? 1 : 0));
        calls.add(new Both("coverings()", RankMetricCode::coverings, Reference::coverings));
        calls.add(new Both("census(5)", x -> x.census(5), x -> x.census(5)));
        return calls;
    }

    private static void lastCallAfterRefusedOnes() {
        for (int k = 1; k <= 2; k++) {
            for (Both both : oneOfEach()) {
                RankMetricCode code = Check.withWord(k, 31, 30, 28, 24, 16);
                Reference reference = new Reference(k);
                System.arraycopy(Edges.WORDS[1], 0, reference.word, 0, 5);
                // Five calls made the word, and five more will read it after the one under test.
                for (int n = 5; n < CALLS - 6; n++) {
                    Check.due("a refused call", refusedCall(code, n), Edges.BAD_ARG);
                }
                String title = "K " + k + ", after refused calls: " + both.name;
                Check.due(title, both.call.on(code), both.due.on(reference));
                Check.wordIs(title, code, reference.word);
            }
        }
    }

    private static int refusedCall(RankMetricCode code, int n) {
        return switch (n % 8) {
            case 0 -> code.encode(32, 0);
            case 1 -> code.put(5, 0);
            case 2 -> code.put(0, -1);
            case 3 -> code.disturb(1, 32);
            case 4 -> code.over(1, 0);
            case 5 -> code.times(Edges.MIN, 0);
            case 6 -> code.message(2);
            default -> code.distance(0, Edges.MAX);
        };
    }

    private static void lastCallAfterItself() {
        for (int k = 1; k <= 2; k++) {
            for (Both both : oneOfEach()) {
                RankMetricCode code = new RankMetricCode(k);
                Reference reference = new Reference(k);
                for (int n = 1; n <= CALLS; n++) {
                    String title = "K " + k + ", call " + n + ": " + both.name;
                    Check.due(title, both.call.on(code), both.due.on(reference));
                }
            }
        }
    }

    private static void lastChange() {
        for (int k = 1; k <= 2; k++) {
            RankMetricCode code = new RankMetricCode(k);
            code.encode(19, k == 1 ? 0 : 28);
            for (int n = 0; n < (CALLS - 4) / 4; n++) {
                code.disturb(1 + n % 31, 1 + 7 * n % 31);
                Check.due("clean() after error " + n, code.clean(), false);
                Check.due("correct() of error " + n, code.correct(), 1);
                Check.due("symbol(0) after error " + n, code.symbol(0), k == 1 ? 19 : 15);
            }
            Check.due("message(0)", code.message(0), 19);
            Check.due("message(1)", code.message(1), k == 1 ? -1 : 28);
            Check.due("call 512: errors()", code.errors(), 0);
        }
    }
}
