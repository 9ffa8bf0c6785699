/** Promise 1: a new object. */
public final class NewObjectTest {
    public static void main(String[] args) {
        Check check = new Check();
        allWorthsAreNothing(check);
        allAmountsAreNothing(check);
        theFirstQuestions(check);
        objectsAreApart(check);
        check.end();
    }

    /** "All worths [...] are 0", from the least coalition to the greatest, and for the empty one. */
    private static void allWorthsAreNothing(Check check) {
        for (int s = 1; s < 32; s++) {
            check.due("first worth(" + s + ", 5)", new CoalitionValues().worth(s, 5), 0);
        }
        check.due("the worth of nobody", Games.worthOfTheEmptyOne(new CoalitionValues(), new int[32]), 0);
    }

    /** "All [...] amounts are 0". */
    private static void allAmountsAreNothing(Check check) {
        Games.dueAmounts(check, "new", new CoalitionValues(), new int[5]);
        for (int p = 0; p < 5; p++) {
            check.due("the first amount of player " + p, Games.amountOf(new CoalitionValues(), p), 0);
        }
    }

    private static void theFirstQuestions(Check check) {
        for (int p = 0; p < 5; p++) {
            check.due("first orderValue(" + p + ")", new CoalitionValues().orderValue(p), 0);
            check.due("first swingValue(" + p + ")", new CoalitionValues().swingValue(p), 0);
            for (int q = 0; q < 5; q++) {
                check.due("first alike(" + p + ", " + q + ")", new CoalitionValues().alike(p, q), true);
            }
        }
        for (int s = 1; s < 32; s++) {
            check.due("first own(" + s + ")", new CoalitionValues().own(s), 0);
        }
        check.due("first complaint()", new CoalitionValues().complaint(), 0);
        check.due("first inCore()", new CoalitionValues().inCore(), true);
        check.due("first convex()", new CoalitionValues().convex(), true);
        check.due("first superadditive()", new CoalitionValues().superadditive(), true);
        check.due("first bestSplit()", new CoalitionValues().bestSplit(), 0);
    }

    private static void objectsAreApart(Check check) {
        CoalitionValues first = new CoalitionValues();
        CoalitionValues second = new CoalitionValues();
        first.worth(3, 7);
        first.pay(2, -9);
        first.bestSplit();
        check.due("worth(3, 1) of another object", second.worth(3, 1), 0);
        second.worth(3, 0);
        check.due("complaint() of another object", second.complaint(), 0);
        check.due("bestSplit() of another object", second.bestSplit(), 0);
        CoalitionValues third = new CoalitionValues();
        check.due("worth(3, 1) of a later object", third.worth(3, 1), 0);
        check.due("the amount of player 2 in a later object", Games.amountOf(third, 2), 0);
    }
}
