/**
 * A code over the field of 32 elements whose errors are measured by rank: a message of one or two
 * elements becomes five symbols, and a received word with an error of small rank is set right.
 */
public final class RankMetricCode {
    /** An argument is out of its range. */
    public static final int BAD_ARG = -1;
    /** There is no such code word. */
    public static final int NONE = -4;

    private static final int DIGITS = 5;
    private static final int ELEMENTS = 32;
    // z^5 + z^2 + 1
    private static final int MODULUS = 37;
    private static final int PLACES = 5;
    private static final int SETS = 32;

    private final int messageSize;
    // Messages are numbered m0 + 32 m1, so that with K = 1 the first 32 numbers are all of them.
    private final int messageCount;
    private final int radius;
    private final int[] word = new int[PLACES];
    // Finding a rank destroys its rows, so the word is never handed over itself.
    private final int[] rows = new int[PLACES];

    /** The word is 0 0 0 0 0; a k below 1 becomes 1, above 2 it becomes 2. */
    public RankMetricCode(int k) {
        messageSize = k < 2 ? 1 : 2;
        messageCount = messageSize == 1 ? ELEMENTS : ELEMENTS * ELEMENTS;
        radius = messageSize == 1 ? 2 : 1;
    }

    /** K. */
    public int size() {
        return messageSize;
    }

    /** The product of a and b; BAD_ARG if one of them is not 0 to 31. */
    public int times(int a, int b) {
        if (!isElement(a) || !isElement(b)) {
            return BAD_ARG;
        }
        return product(a, b);
    }

    /** The x with b times x = a; BAD_ARG if a or b is not 0 to 31 or b is 0. */
    public int over(int a, int b) {
        if (!isElement(a) || !isElement(b) || b == 0) {
            return BAD_ARG;
        }
        int quotient = 0;
        for (int x = 0; x < ELEMENTS; x++) {
            if (product(b, x) == a) {
                quotient = x;
            }
        }
        return quotient;
    }

    /** Makes the code word of the message the word: 0; BAD_ARG if it is not a message. */
    public int encode(int m0, int m1) {
        if (!isMessage(m0, m1)) {
            return BAD_ARG;
        }
        writeCodeWord(m0, m1);
        return 0;
    }

    /** Makes c the symbol i and answers the one before; BAD_ARG if i or c is out of range. */
    public int put(int i, int c) {
        if (!isPlace(i) || !isElement(c)) {
            return BAD_ARG;
        }
        int before = word[i];
        word[i] = c;
        return before;
    }

    /** Symbol i of the word; BAD_ARG if i is not 0 to 4. */
    public int symbol(int i) {
        return isPlace(i) ? word[i] : BAD_ARG;
    }

    /** Adds a to the symbols at the places in set and answers the new rank, or BAD_ARG. */
    public int disturb(int a, int set) {
        if (!isElement(a) || !isSet(set)) {
            return BAD_ARG;
        }
        for (int i = 0; i < PLACES; i++) {
            if ((set >> i & 1) == 1) {
                word[i] ^= a;
            }
        }
        return wordDistance(0, 0);
    }

    /** The rank of the word. */
    public int rank() {
        // The message 0, 0 has the code word 0 0 0 0 0.
        return wordDistance(0, 0);
    }

    /** The distance of the word from the message's code word; BAD_ARG if it is not a message. */
    public int distance(int m0, int m1) {
        return isMessage(m0, m1) ? wordDistance(m0, m1) : BAD_ARG;
    }

    /** The distance from the nearest code word if that is at most T; else NONE. */
    public int errors() {
        int found = messageWithin(radius);
        if (found == NONE) {
            return NONE;
        }
        int m0 = firstElement(found);
        int m1 = secondElement(found);
        return wordDistance(m0, m1);
    }

    /** Element i of the message at a distance of at most T; BAD_ARG before NONE. */
    public int message(int i) {
        if (i < 0 || i >= messageSize) {
            return BAD_ARG;
        }
        int found = messageWithin(radius);
        if (found == NONE) {
            return NONE;
        }
        return i == 0 ? firstElement(found) : secondElement(found);
    }

    /** Makes the code word at a distance of at most T the word: its old distance, or NONE. */
    public int correct() {
        int found = messageWithin(radius);
        if (found == NONE) {
            return NONE;
        }
        int m0 = firstElement(found);
        int m1 = secondElement(found);
        int before = wordDistance(m0, m1);
        writeCodeWord(m0, m1);
        return before;
    }

    /** Whether the word is a code word. */
    public boolean clean() {
        return messageWithin(0) != NONE;
    }

    /** The number of sets of places such that changes there alone can give a code word. */
    public int coverings() {
        // Digit S of covered tells whether the set S is one of those counted.
        int covered = 0;
        for (int number = 0; number < messageCount; number++) {
            int places = differingPlaces(number);
            covered |= setsAround(places);
        }
        int count = 0;
        for (int set = 0; set < SETS; set++) {
            count += covered >>> set & 1;
        }
        return count;
    }

    /** How many code words have the rank r. */
    public int census(int r) {
        int count = 0;
        for (int number = 0; number < messageCount; number++) {
            if (codeWordRank(number) == r) {
                count++;
            }
        }
        return count;
    }

    private static boolean isElement(int a) {
        return a >= 0 && a < ELEMENTS;
    }

    private static boolean isPlace(int i) {
        return i >= 0 && i < PLACES;
    }

    private static boolean isSet(int set) {
        return set >= 0 && set < SETS;
    }

    private boolean isMessage(int m0, int m1) {
        return isElement(m0) && isElement(m1) && (messageSize == 2 || m1 == 0);
    }

    private static int firstElement(int number) {
        return number % ELEMENTS;
    }

    private static int secondElement(int number) {
        return number / ELEMENTS;
    }

    private static int product(int a, int b) {
        int sum = 0;
        for (int digit = DIGITS - 1; digit >= 0; digit--) {
            sum <<= 1;
            if (sum >= ELEMENTS) {
                sum ^= MODULUS;
            }
            if ((b >> digit & 1) == 1) {
                sum ^= a;
            }
        }
        return sum;
    }

    // With K = 1 the second element is always 0, and so is its term.
    private static int codeSymbol(int m0, int m1, int i) {
        int g = 1 << i;
        int square = product(g, g);
        return product(m0, g) ^ product(m1, square);
    }

    private void writeCodeWord(int m0, int m1) {
        for (int i = 0; i < PLACES; i++) {
            word[i] = codeSymbol(m0, m1, i);
        }
    }

    private int wordDistance(int m0, int m1) {
        for (int i = 0; i < PLACES; i++) {
            rows[i] = word[i] ^ codeSymbol(m0, m1, i);
        }
        return rankOfRows();
    }

    private int codeWordRank(int number) {
        int m0 = firstElement(number);
        int m1 = secondElement(number);
        for (int i = 0; i < PLACES; i++) {
            rows[i] = codeSymbol(m0, m1, i);
        }
        return rankOfRows();
    }

    // A row that is still not 0 when its turn comes is no sum of the rows before it.
    private int rankOfRows() {
        int found = 0;
        for (int i = 0; i < PLACES; i++) {
            if (rows[i] != 0) {
                found++;
                clearBelow(i);
            }
        }
        return found;
    }

    private void clearBelow(int i) {
        int lowestDigit = rows[i] & -rows[i];
        for (int j = i + 1; j < PLACES; j++) {
            if ((rows[j] & lowestDigit) != 0) {
                rows[j] ^= rows[i];
            }
        }
    }

    // No limit above T is asked for, so there is never a second such message to choose from.
    private int messageWithin(int limit) {
        for (int number = 0; number < messageCount; number++) {
            int m0 = firstElement(number);
            int m1 = secondElement(number);
            if (wordDistance(m0, m1) <= limit) {
                return number;
            }
        }
        return NONE;
    }

    private int differingPlaces(int number) {
        int m0 = firstElement(number);
        int m1 = secondElement(number);
        int places = 0;
        for (int i = 0; i < PLACES; i++) {
            if (word[i] != codeSymbol(m0, m1, i)) {
                places |= 1 << i;
            }
        }
        return places;
    }

    private static int setsAround(int places) {
        int sets = 0;
        for (int set = 0; set < SETS; set++) {
            if ((places & ~set) == 0) {
                sets |= 1 << set;
            }
        }
        return sets;
    }
}
