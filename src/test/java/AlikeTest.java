/** Promise 13: alike. */
public final class AlikeTest {
    public static void main(String[] args) {
        Check check = new Check();
        everyCoalitionCounts(check);
        coalitionsWithBothDoNot(check);
        onePlayerIsLikeItself(check);
        refusesWrongPlayers(check);
        check.end();
    }

    private static void everyCoalitionCounts(Check check) {
        int[] worths = Games.squares();
        for (int s = 1; s < 32; s++) {
            CoalitionValues x = Games.withWorths(worths);
            x.worth(s, worths[s] + 1);
            for (int a = 0; a < 5; a++) {
                for (int b = 0; b < 5; b++) {
                    boolean bothOrNeither = (s >> a & 1) == (s >> b & 1);
                    check.due("alike(" + a + ", " + b + ") with one more for " + s, x.alike(a, b), bothOrNeither);
                }
            }
        }
    }

    private static void coalitionsWithBothDoNot(Check check) {
        CoalitionValues x = new CoalitionValues();
        x.worth(3, 1000);
        x.worth(7, -1000);
        x.worth(4, 17);
        x.worth(24, 5);
        check.due("alike(0, 1)", x.alike(0, 1), true);
        check.due("alike(1, 0)", x.alike(1, 0), true);
        check.due("alike(3, 4)", x.alike(3, 4), true);
        check.due("alike(0, 2)", x.alike(0, 2), false);
        check.due("alike(2, 3)", x.alike(2, 3), false);
    }

    private static void onePlayerIsLikeItself(Check check) {
        CoalitionValues x = Games.withWorths(Games.allDifferent());
        for (int p = 0; p < 5; p++) {
            check.due("alike(" + p + ", " + p + ")", x.alike(p, p), true);
        }
    }

    private static void refusesWrongPlayers(Check check) {
        CoalitionValues x = new CoalitionValues();
        for (int bad : Games.BAD_PLAYERS) {
            for (int good = 0; good < 5; good++) {
                check.due("alike(" + bad + ", " + good + ")", x.alike(bad, good), false);
                check.due("alike(" + good + ", " + bad + ")", x.alike(good, bad), false);
            }
            check.due("alike(" + bad + ", " + bad + ")", x.alike(bad, bad), false);
        }
    }
}
