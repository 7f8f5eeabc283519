/** Promises 1 and 2, and the constants. */
public final class NewObjectTest {
    public static void main(String[] args) {
        newObject(1);
        newObject(2);
        objectsAreApart();
        Check.due("BAD_ARG", RankMetricCode.BAD_ARG, -1);
        Check.due("NONE", RankMetricCode.NONE, -4);
        Check.end();
    }

    private static void newObject(int k) {
        String made = "new RankMetricCode(" + k + ")";
        RankMetricCode code = new RankMetricCode(k);
        Check.due(made + ": size()", code.size(), k);
        Check.wordIs(made, code, 0, 0, 0, 0, 0);
        Check.due(made + ": rank()", code.rank(), 0);
        Check.due(made + ": clean()", code.clean(), true);
        Check.due(made + ": errors()", code.errors(), 0);
        Check.due(made + ": message(0)", code.message(0), 0);
    }

    private static void objectsAreApart() {
        RankMetricCode one = new RankMetricCode(1);
        RankMetricCode two = new RankMetricCode(2);
        one.encode(19, 0);
        Check.wordIs("the other object", two, 0, 0, 0, 0, 0);
        Check.due("the first one's size()", one.size(), 1);
        Check.due("the other one's size()", two.size(), 2);
    }
}
