/** Promise 2: worth. */
public final class WorthTest {
    public static void main(String[] args) {
        Check check = new Check();
        setsJustOne(check);
        takesTheEdges(check);
        refusesWrongInputs(check);
        answersMayEqualTheConstants(check);
        check.end();
    }

    private static void setsJustOne(Check check) {
        int[] worths = Games.allDifferent();
        CoalitionValues x = Games.withWorths(worths);
        Games.dueWorths(check, "all different", x, worths);
        check.due("worth(21, 555)", x.worth(21, 555), worths[21]);
        worths[21] = 555;
        Games.dueWorths(check, "after worth(21, 555)", x, worths);
        check.due("worth(21, 555) again", x.worth(21, 555), 555);
        CoalitionValues y = new CoalitionValues();
        y.worth(31, 40);
        Games.dueAmounts(check, "after worth", y, new int[5]);
    }

    private static void takesTheEdges(Check check) {
        CoalitionValues x = new CoalitionValues();
        for (int s = 1; s < 32; s++) {
            check.due("worth(" + s + ", -1000)", x.worth(s, -1000), 0);
            check.due("worth(" + s + ", 1000)", x.worth(s, 1000), -1000);
            check.due("worth(" + s + ", 999)", x.worth(s, 999), 1000);
            check.due("worth(" + s + ", -999)", x.worth(s, -999), 999);
            check.due("worth(" + s + ", 0)", x.worth(s, 0), -999);
        }
    }

    private static void refusesWrongInputs(Check check) {
        int[] worths = Games.allDifferent();
        CoalitionValues x = Games.withWorths(worths);
        for (int bad : Games.BAD_COALITIONS) {
            check.due("worth(" + bad + ", 5)", x.worth(bad, 5), CoalitionValues.BAD_COALITION);
        }
        int[] badWorths = {1001, -1001, 10000, -10000, Integer.MAX_VALUE, Integer.MIN_VALUE};
        for (int bad : badWorths) {
            for (int s = 1; s < 32; s += 6) {
                check.due("worth(" + s + ", " + bad + ")", x.worth(s, bad), CoalitionValues.BAD_WORTH);
            }
        }
        Games.dueWorths(check, "after wrong worths", x, worths);
        CoalitionValues y = new CoalitionValues();
        y.worth(0, 5);
        check.due("swingValue(0) after worth(0, 5)", y.swingValue(0), 0);
        check.due("superadditive() after worth(0, 5)", y.superadditive(), true);
    }

    private static void answersMayEqualTheConstants(Check check) {
        CoalitionValues x = new CoalitionValues();
        check.due("worth(4, -1)", x.worth(4, -1), 0);
        check.due("worth(4, -2)", x.worth(4, -2), -1);
        check.due("worth(4, -3)", x.worth(4, -3), -2);
        check.due("worth(4, 8)", x.worth(4, 8), -3);
        check.due("worth(4, 0)", x.worth(4, 0), 8);
    }
}
