/** Promise 1: a new object. */
public final class NewObjectTest {
    public static void main(String[] args) {
        Check check = new Check();
        for (int s = 1; s < 32; s++) {
            check.due("first worth(" + s + ", 5)", new CoalitionValues().worth(s, 5), 0);
        }
        for (int p = 0; p < 5; p++) {
            check.due("first orderValue(" + p + ")", new CoalitionValues().orderValue(p), 0);
            check.due("first swingValue(" + p + ")", new CoalitionValues().swingValue(p), 0);
        }
        for (int s = 1; s < 32; s++) {
            check.due("first own(" + s + ")", new CoalitionValues().own(s), 0);
        }
        CoalitionValues x = new CoalitionValues();
        check.due("first complaint()", x.complaint(), 0);
        check.due("first inCore()", x.inCore(), true);
        check.due("first convex()", x.convex(), true);
        check.due("first superadditive()", x.superadditive(), true);
        check.due("first alike(0, 4)", x.alike(0, 4), true);
        check.due("first bestSplit()", x.bestSplit(), 0);
        Games.dueAmounts(check, "new", x, new int[5]);
        objectsAreApart(check);
        check.end();
    }

    private static void objectsAreApart(Check check) {
        CoalitionValues first = new CoalitionValues();
        CoalitionValues second = new CoalitionValues();
        first.worth(3, 7);
        first.pay(2, -9);
        first.bestSplit();
        check.due("worth(3, 1) of another object", second.worth(3, 1), 0);
        second.worth(3, 0);
        check.due("complaint() of another object", second.complaint(), 0);
        check.due("bestSplit() of another object", second.bestSplit(), 0);
    }
}
