/** Promises 3 and 4. */
public final class FieldTest {
    public static void main(String[] args) {
        for (int k = 1; k <= 2; k++) {
            RankMetricCode code = Check.withWord(k, 3, 9, 27, 14, 2);
            Check.due("times(2, 16)", code.times(2, 16), 5);
            Check.due("times(31, 31)", code.times(31, 31), 18);
            Check.due("over(5, 16)", code.over(5, 16), 2);
            Check.due("over(1, 2)", code.over(1, 2), 18);
            Check.wordIs("after times and over", code, 3, 9, 27, 14, 2);
            allPairs(k);
        }
        Check.end();
    }

    private static void allPairs(int k) {
        for (int a = 0; a < 32; a++) {
            // A new object in time: nothing is promised after the 512th call.
            RankMetricCode code = new RankMetricCode(k);
            for (int b = 0; b < 32; b++) {
                Check.due("times(" + a + ", " + b + ")", code.times(a, b), Reference.times(a, b));
                Check.due("over(" + a + ", " + b + ")", code.over(a, b), Reference.over(a, b));
            }
        }
    }
}
