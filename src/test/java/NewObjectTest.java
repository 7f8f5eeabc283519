/** Promises 1 and 2, and the constants. */
public final class NewObjectTest {
    private static final int[] BELOW = {Integer.MIN_VALUE, -2, -1, 0, 1};
    private static final int[] ABOVE = {2, 3, 4, 100, Integer.MAX_VALUE};

    public static void main(String[] args) {
        for (int k : BELOW) {
            newObject(k, 1);
        }
        for (int k : ABOVE) {
            newObject(k, 2);
        }
        objectsAreApart();
        Check.due("BAD_ARG", RankMetricCode.BAD_ARG, -1);
        Check.due("NONE", RankMetricCode.NONE, -4);
        Check.end();
    }

    private static void newObject(int k, int size) {
        String made = "new RankMetricCode(" + k + ")";
        RankMetricCode code = new RankMetricCode(k);
        Check.due(made + ": size()", code.size(), size);
        Check.wordIs(made, code, 0, 0, 0, 0, 0);
        Check.due(made + ": rank()", code.rank(), 0);
        Check.due(made + ": clean()", code.clean(), true);
        // K shows in what a message may be, not in size() alone.
        Check.due(made + ": message(1)", code.message(1), size == 1 ? -1 : 0);
        Check.due(made + ": encode(0, 1)", code.encode(0, 1), size == 1 ? -1 : 0);
        Check.due(made + ": census(4)", code.census(4), size == 1 ? 0 : 961);
        Check.due(made + ": size() later", code.size(), size);
    }

    private static void objectsAreApart() {
        RankMetricCode one = new RankMetricCode(1);
        RankMetricCode two = new RankMetricCode(2);
        one.encode(19, 0);
        Check.wordIs("the other object", two, 0, 0, 0, 0, 0);
        Check.due("the first one's size()", one.size(), 1);
        Check.due("the other one's size()", two.size(), 2);
    }
}
