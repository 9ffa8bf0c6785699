/** Promise 2: worth. */
public final class WorthTest {
    public static void main(String[] args) {
        Check check = new Check();
        setsJustOne(check);
        takesEveryCoalition(check);
        takesEveryWorth(check);
        takesTheEdgesEverywhere(check);
        refusesCoalitionsOutside(check);
        refusesTheEmptyCoalition(check);
        refusesWorthsOutside(check);
        answersTheOldOneAfterARefusal(check);
        answersMayEqualTheConstants(check);
        check.end();
    }

    private static void setsJustOne(Check check) {
        int[] worths = Games.allDifferent();
        CoalitionValues x = Games.withWorths(worths);
        Games.dueWorths(check, "all different", x, worths);
        check.due("worth(21, 555)", x.worth(21, 555), worths[21]);
        worths[21] = 555;
        Games.dueWorths(check, "after worth(21, 555)", x, worths);
        check.due("worth(21, 555) again", x.worth(21, 555), 555);
        CoalitionValues y = new CoalitionValues();
        y.worth(31, 40);
        Games.dueAmounts(check, "after worth", y, new int[5]);
    }

    /** Within "1 to 31" the least coalition, the greatest and all between are taken, and set that one alone. */
    private static void takesEveryCoalition(Check check) {
        for (int s = 1; s < 32; s++) {
            int[] worths = Games.allDifferent();
            CoalitionValues x = Games.withWorths(worths);
            check.due("worth(" + s + ", 777)", x.worth(s, 777), worths[s]);
            worths[s] = 777;
            Games.dueWorths(check, "after worth(" + s + ", 777)", x, worths);
        }
    }

    /** Within "-1000 to 1000" each worth is taken. */
    private static void takesEveryWorth(Check check) {
        for (int worth = -1000; worth <= 1000; worth++) {
            int coalition = worth % 2 == 0 ? 1 : 31;
            CoalitionValues x = new CoalitionValues();
            check.due("worth(" + coalition + ", " + worth + ")", x.worth(coalition, worth), 0);
            check.due("worth(" + coalition + ", 0) after " + worth, x.worth(coalition, 0), worth);
        }
    }

    /** The least and the greatest worth, and the ones next to them, for every coalition. */
    private static void takesTheEdgesEverywhere(Check check) {
        CoalitionValues x = new CoalitionValues();
        for (int s = 1; s < 32; s++) {
            check.due("worth(" + s + ", -1000)", x.worth(s, -1000), 0);
            check.due("worth(" + s + ", 1000)", x.worth(s, 1000), -1000);
            check.due("worth(" + s + ", 999)", x.worth(s, 999), 1000);
            check.due("worth(" + s + ", -999)", x.worth(s, -999), 999);
            check.due("worth(" + s + ", 0)", x.worth(s, 0), -999);
        }
    }

    /** "coalition not in 1 to 31: BAD_COALITION [...] nothing changes then". */
    private static void refusesCoalitionsOutside(Check check) {
        int[] goodWorths = {-1000, 0, 5, 1000};
        for (int bad : Games.BAD_COALITIONS) {
            for (int worth : goodWorths) {
                Untouched.due(check, "worth(" + bad + ", " + worth + ")",
                        x -> x.worth(bad, worth), CoalitionValues.BAD_COALITION);
            }
        }
    }

    /** Terms: "the worth of the empty one is always 0", so that there is no setting it. */
    private static void refusesTheEmptyCoalition(Check check) {
        CoalitionValues x = new CoalitionValues();
        check.due("worth(0, 5)", x.worth(0, 5), CoalitionValues.BAD_COALITION);
        check.due("worth(0, 5) again", x.worth(0, 5), CoalitionValues.BAD_COALITION);
        check.due("worth(0, 0)", x.worth(0, 0), CoalitionValues.BAD_COALITION);
        check.due("worth(0, -5)", x.worth(0, -5), CoalitionValues.BAD_COALITION);
        check.due("swingValue(0) after it", x.swingValue(0), 0);
        check.due("orderValue(0) after it", x.orderValue(0), 0);
        check.due("superadditive() after it", x.superadditive(), true);
    }

    /** "worth not in -1000 to 1000: BAD_WORTH; nothing changes then". */
    private static void refusesWorthsOutside(Check check) {
        int[] someCoalitions = {1, 2, 16, 30, 31};
        for (int bad : Games.BAD_WORTHS) {
            CoalitionValues y = new CoalitionValues();
            for (int s = 1; s < 32; s++) {
                check.due("worth(" + s + ", " + bad + ")", y.worth(s, bad), CoalitionValues.BAD_WORTH);
            }
            for (int s : someCoalitions) {
                Untouched.due(check, "worth(" + s + ", " + bad + ")",
                        x -> x.worth(s, bad), CoalitionValues.BAD_WORTH);
            }
        }
    }

    /** "Else answers the old one": the last that was taken, not one that was refused. */
    private static void answersTheOldOneAfterARefusal(Check check) {
        CoalitionValues x = new CoalitionValues();
        check.due("worth(31, 1000)", x.worth(31, 1000), 0);
        check.due("worth(31, 1001)", x.worth(31, 1001), CoalitionValues.BAD_WORTH);
        check.due("worth(31, 1000) again", x.worth(31, 1000), 1000);
        check.due("worth(32, -1000)", x.worth(32, -1000), CoalitionValues.BAD_COALITION);
        check.due("worth(31, -1000)", x.worth(31, -1000), 1000);
        check.due("worth(31, -1001)", x.worth(31, -1001), CoalitionValues.BAD_WORTH);
        check.due("worth(31, 0)", x.worth(31, 0), -1000);
    }

    /** "(Worths may equal these answers.)" They are taken and answered like any other. */
    private static void answersMayEqualTheConstants(Check check) {
        for (int s = 1; s < 32; s++) {
            CoalitionValues x = new CoalitionValues();
            check.due("worth(" + s + ", -1)", x.worth(s, CoalitionValues.BAD_COALITION), 0);
            check.due("worth(" + s + ", -2)", x.worth(s, CoalitionValues.BAD_WORTH), -1);
            check.due("worth(" + s + ", -3)", x.worth(s, CoalitionValues.BAD_PLAYER), -2);
            check.due("worth(" + s + ", -1) again", x.worth(s, -1), -3);
            check.due("worth(" + s + ", 8)", x.worth(s, 8), -1);
            check.due("worth(" + s + ", 0)", x.worth(s, 0), 8);
        }
    }
}
