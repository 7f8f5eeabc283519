/** Promises 3 and 4. */
public final class FieldTest {
    public static void main(String[] args) {
        for (int k = 1; k <= 2; k++) {
            RankMetricCode code = Check.withWord(k, 3, 9, 27, 14, 2);
            Check.due("times(2, 16)", code.times(2, 16), 5);
            Check.due("times(31, 31)", code.times(31, 31), 18);
            Check.due("over(5, 16)", code.over(5, 16), 2);
            Check.due("over(1, 2)", code.over(1, 2), 18);
            Check.wordIs("after times and over", code, 3, 9, 27, 14, 2);
            allPairs(k);
            refused(k);
        }
        Check.end();
    }

    private static void allPairs(int k) {
        for (int a = 0; a < 32; a++) {
            // A new object in time: nothing is promised after the 512th call.
            RankMetricCode code = new RankMetricCode(k);
            for (int b = 0; b < 32; b++) {
                Check.due("times(" + a + ", " + b + ")", code.times(a, b), Reference.product(a, b));
                Check.due("over(" + a + ", " + b + ")", code.over(a, b), quotient(a, b));
            }
        }
    }

    private static int quotient(int a, int b) {
        for (int x = 0; b != 0 && x < 32; x++) {
            if (Reference.product(b, x) == a) {
                return x;
            }
        }
        return -1;
    }

    private static void refused(int k) {
        RankMetricCode code = new RankMetricCode(k);
        for (int bad : Check.OUTSIDE) {
            Check.due("times(" + bad + ", 1)", code.times(bad, 1), -1);
            Check.due("times(0, " + bad + ")", code.times(0, bad), -1);
            Check.due("times(" + bad + ", 0)", code.times(bad, 0), -1);
            Check.due("times(" + bad + ", itself)", code.times(bad, bad), -1);
            Check.due("over(" + bad + ", 1)", code.over(bad, 1), -1);
            Check.due("over(0, " + bad + ")", code.over(0, bad), -1);
            Check.due("over(" + bad + ", 0)", code.over(bad, 0), -1);
        }
        Check.due("over(0, 0)", code.over(0, 0), -1);
        Check.due("over(31, 0)", code.over(31, 0), -1);
    }
}
