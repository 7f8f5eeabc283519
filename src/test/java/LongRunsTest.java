/** Promises 5 to 16 together: runs of 512 calls, each answer held against the reference. */
public final class LongRunsTest {
    private static final int RUNS = 24;
    private static final int CALLS = 512;
    // The reference is slow at these, so long runs ask for them less often.
    private static final int FIRST_SLOW = 12;

    private static final int[] OUTSIDE = Edges.outside(0, 31);

    private static long state;

    public static void main(String[] args) {
        for (int run = 0; run < RUNS; run++) {
            state = 1000003L * run + 17;
            int k = next(6) - 1;
            RankMetricCode code = new RankMetricCode(k);
            Reference reference = new Reference(k);
            for (int n = 0; n < CALLS - 5; n++) {
                oneCall("run " + run + ", call " + n + ": ", code, reference);
            }
            Check.wordIs("run " + run + " at its end", code, reference.word);
        }
        Check.end();
    }

    /** A fixed sequence: the same calls at every run of the test. */
    private static int next(int bound) {
        state = state * 6364136223846793005L + 1442695040888963407L;
        return (int) ((state >>> 33) % bound);
    }

    /** Mostly an element, now and then what is outside. */
    private static int element() {
        return next(25) == 0 ? OUTSIDE[next(OUTSIDE.length)] : next(32);
    }

    private static int place() {
        return next(8) - 1;
    }

    private static void oneCall(String at, RankMetricCode code, Reference reference) {
        int kind = next(10) == 0 ? FIRST_SLOW + next(2) : next(FIRST_SLOW);
        int a = element();
        int b = reference.k == 1 && next(4) != 0 ? 0 : element();
        int c = element();
        int i = place();
        switch (kind) {
            case 0 -> Check.due(at + "encode " + a + " " + b, code.encode(a, b), reference.encode(a, b));
            case 1, 2 -> Check.due(at + "put " + i + " " + c, code.put(i, c), reference.put(i, c));
            case 3 -> Check.due(at + "symbol " + i, code.symbol(i), i < 0 || i > 4 ? -1 : reference.word[i]);
            case 4, 5 -> Check.due(at + "disturb " + a + " " + c, code.disturb(a, c), reference.disturb(a, c));
            case 6 -> Check.due(at + "rank", code.rank(), Reference.rank(reference.word));
            case 7 -> Check.due(at + "distance " + a + " " + b, code.distance(a, b), reference.distance(a, b));
            case 8 -> Check.due(at + "errors", code.errors(), reference.errors());
            case 9 -> Check.due(at + "message " + i, code.message(i), reference.message(i));
            case 10 -> Check.due(at + "correct", code.correct(), reference.correct());
            case 11 -> Check.due(at + "clean", code.clean(), reference.clean());
            case 12 -> Check.due(at + "coverings", code.coverings(), reference.coverings());
            default -> Check.due(at + "census " + i, code.census(i), reference.census(i));
        }
    }
}
