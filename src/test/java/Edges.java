import java.util.Arrays;

/** What the boundary tests share: values around a range, and what a refused call must leave. */
final class Edges {
    static final int BAD_ARG = -1;
    static final int NONE = -4;
    static final int MIN = Integer.MIN_VALUE;
    static final int MAX = Integer.MAX_VALUE;

    /** A code word, one at distance 1, one at 2 (too far if K is 2), and one too far at both K. */
    static final int[][] WORDS = {
        {0, 0, 0, 0, 0}, {31, 30, 28, 24, 16}, {0, 2, 4, 8, 0}, {3, 9, 27, 14, 2}
    };

    private Edges() {
    }

    interface Call {
        int on(RankMetricCode code);
    }

    /** The values at both ends of the range least .. most, and those just inside. */
    static int[] inside(int least, int most) {
        int[] ends = {least, Math.min(least + 1, most), Math.max(most - 1, least), most};
        return Arrays.stream(ends).distinct().toArray();
    }

    /** Just below, just above and far outside; many of them would be inside if digits were cut off. */
    static int[] outside(int least, int most) {
        return new int[] {
            MIN, MIN + 1, MIN + 32, least - (1 << 24), least - 65536, least - 256, least - 32,
            least - 2, least - 1, most + 1, most + 2, least + 64, least + 256, most + 65536,
            least + (1 << 24), MAX - 1, MAX
        };
    }

    static int[] around(int least, int most) {
        int[] in = inside(least, most);
        int[] out = outside(least, most);
        int[] all = Arrays.copyOf(in, in.length + out.length);
        System.arraycopy(out, 0, all, in.length, out.length);
        return all;
    }

    /** BAD_ARG at both values of K, whatever the word is. */
    static void refused(String what, Call call) {
        refused(1, what, call);
        refused(2, what, call);
    }

    static void refused(int k, String what, Call call) {
        for (int[] symbols : WORDS) {
            answersAndKeeps(k, what, call, BAD_ARG, symbols);
        }
    }

    /** The answer is as due, and afterwards the object is as it was. */
    static void answersAndKeeps(int k, String what, Call call, int want, int... symbols) {
        String title = "K " + k + ", word " + Arrays.toString(symbols) + ": " + what;
        RankMetricCode code = Check.withWord(k, symbols);
        Check.due(title, call.on(code), want);
        Check.due(title + ", then size()", code.size(), k);
        Check.wordIs(title + ", then", code, symbols);
    }
}
