/**
 * The document's terms once more, each by another way than the class takes: whole products before
 * the reduction, ranks by looking at all choices of symbols, the nearest code word by comparing all.
 */
final class Reference {
    static final int BAD_ARG = -1;
    static final int NONE = -4;

    final int k;
    final int[] word = new int[5];
    private final int[][] codeWords;

    Reference(int k) {
        this.k = Math.max(1, Math.min(2, k));
        codeWords = new int[this.k == 1 ? 32 : 1024][];
        for (int n = 0; n < codeWords.length; n++) {
            codeWords[n] = codeWord(n % 32, n / 32);
        }
    }

    static int product(int a, int b) {
        int whole = 0;
        for (int power = 0; power < 5; power++) {
            whole ^= (b >> power & 1) * (a << power);
        }
        for (int power = 8; power >= 5; power--) {
            if ((whole >> power & 1) == 1) {
                whole ^= 0b100101 << (power - 5);
            }
        }
        return whole;
    }

    static int times(int a, int b) {
        return in(a, 31) && in(b, 31) ? product(a, b) : BAD_ARG;
    }

    /** By the 30th power of b, since the 31st is 1. */
    static int over(int a, int b) {
        if (!in(a, 31) || !in(b, 31) || b == 0) {
            return BAD_ARG;
        }
        int quotient = a;
        for (int factor = 0; factor < 30; factor++) {
            quotient = product(quotient, b);
        }
        return quotient;
    }

    static int[] codeWord(int m0, int m1) {
        int[] symbols = new int[5];
        for (int i = 0; i < 5; i++) {
            int g = 1 << i;
            symbols[i] = product(m0, g) ^ product(m1, product(g, g));
        }
        return symbols;
    }

    static int rank(int[] symbols) {
        int greatest = 0;
        for (int choice = 0; choice < 32; choice++) {
            if (independent(symbols, choice)) {
                greatest = Math.max(greatest, Integer.bitCount(choice));
            }
        }
        return greatest;
    }

    private static boolean independent(int[] symbols, int choice) {
        for (int part = 1; part < 32; part++) {
            if ((part & choice) == part && sum(symbols, part) == 0) {
                return false;
            }
        }
        return true;
    }

    private static int sum(int[] symbols, int part) {
        int sum = 0;
        for (int i = 0; i < 5; i++) {
            sum ^= (part >> i & 1) * symbols[i];
        }
        return sum;
    }

    static int distance(int[] one, int[] other) {
        int[] difference = new int[5];
        for (int i = 0; i < 5; i++) {
            difference[i] = one[i] ^ other[i];
        }
        return rank(difference);
    }

    int corrects() {
        return k == 1 ? 2 : 1;
    }

    boolean isMessage(int m0, int m1) {
        return in(m0, 31) && in(m1, 31) && (k == 2 || m1 == 0);
    }

    private static boolean in(int value, int most) {
        return value >= 0 && value <= most;
    }

    /** The number of the nearest code word's message, whatever its distance. */
    private int nearest() {
        int best = 0;
        int least = 6;
        for (int n = 0; n < codeWords.length; n++) {
            int far = distance(word, codeWords[n]);
            if (far < least) {
                least = far;
                best = n;
            }
        }
        return best;
    }

    int encode(int m0, int m1) {
        if (!isMessage(m0, m1)) {
            return BAD_ARG;
        }
        System.arraycopy(codeWord(m0, m1), 0, word, 0, 5);
        return 0;
    }

    int put(int i, int c) {
        if (!in(i, 4) || !in(c, 31)) {
            return BAD_ARG;
        }
        int before = word[i];
        word[i] = c;
        return before;
    }

    int symbol(int i) {
        return in(i, 4) ? word[i] : BAD_ARG;
    }

    int disturb(int a, int set) {
        if (!in(a, 31) || !in(set, 31)) {
            return BAD_ARG;
        }
        for (int i = 0; i < 5; i++) {
            word[i] ^= (set >> i & 1) * a;
        }
        return rank(word);
    }

    int distance(int m0, int m1) {
        return isMessage(m0, m1) ? distance(word, codeWord(m0, m1)) : BAD_ARG;
    }

    int errors() {
        int least = distance(word, codeWords[nearest()]);
        return least <= corrects() ? least : NONE;
    }

    int message(int i) {
        if (!in(i, k - 1)) {
            return BAD_ARG;
        }
        if (errors() == NONE) {
            return NONE;
        }
        return i == 0 ? nearest() % 32 : nearest() / 32;
    }

    int correct() {
        int before = errors();
        if (before != NONE) {
            System.arraycopy(codeWords[nearest()], 0, word, 0, 5);
        }
        return before;
    }

    boolean clean() {
        for (int[] symbols : codeWords) {
            if (agree(symbols, 0)) {
                return true;
            }
        }
        return false;
    }

    int coverings() {
        int count = 0;
        for (int set = 0; set < 32; set++) {
            boolean found = false;
            for (int[] symbols : codeWords) {
                found |= agree(symbols, set);
            }
            count += found ? 1 : 0;
        }
        return count;
    }

    private boolean agree(int[] symbols, int besideSet) {
        for (int i = 0; i < 5; i++) {
            if ((besideSet >> i & 1) == 0 && symbols[i] != word[i]) {
                return false;
            }
        }
        return true;
    }

    int census(int r) {
        int count = 0;
        for (int[] symbols : codeWords) {
            count += rank(symbols) == r ? 1 : 0;
        }
        return count;
    }
}
