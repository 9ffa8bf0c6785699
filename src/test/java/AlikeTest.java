/** Promise 13: alike. */
public final class AlikeTest {
    public static void main(String[] args) {
        Check check = new Check();
        everyCoalitionCounts(check);
        coalitionsWithBothDoNot(check);
        onePlayerIsLikeItself(check);
        eachCoalitionWithNeitherCounts(check);
        takesTheEdges(check);
        refusesTheFirstOutside(check);
        refusesTheSecondOutside(check);
        refusesBothOutside(check);
        check.end();
    }

    private static void everyCoalitionCounts(Check check) {
        int[] worths = Games.squares();
        for (int s = 1; s < 32; s++) {
            CoalitionValues x = Games.withWorths(worths);
            x.worth(s, worths[s] + 1);
            for (int a = 0; a < 5; a++) {
                for (int b = 0; b < 5; b++) {
                    boolean bothOrNeither = (s >> a & 1) == (s >> b & 1);
                    check.due("alike(" + a + ", " + b + ") with one more for " + s, x.alike(a, b), bothOrNeither);
                }
            }
        }
    }

    private static void coalitionsWithBothDoNot(Check check) {
        CoalitionValues x = new CoalitionValues();
        x.worth(3, 1000);
        x.worth(7, -1000);
        x.worth(4, 17);
        x.worth(24, 5);
        check.due("alike(0, 1)", x.alike(0, 1), true);
        check.due("alike(1, 0)", x.alike(1, 0), true);
        check.due("alike(3, 4)", x.alike(3, 4), true);
        check.due("alike(0, 2)", x.alike(0, 2), false);
        check.due("alike(2, 3)", x.alike(2, 3), false);
    }

    /** A player is in 0 to 4 and has its own margins: it is like itself. */
    private static void onePlayerIsLikeItself(Check check) {
        CoalitionValues x = Games.withWorths(Games.allDifferent());
        for (int p = 0; p < 5; p++) {
            check.due("alike(" + p + ", " + p + ")", x.alike(p, p), true);
        }
    }

    /** "all coalitions that have neither of them": from the empty one to the three others, one by one. */
    private static void eachCoalitionWithNeitherCounts(Check check) {
        for (int a = 0; a < 5; a++) {
            for (int b = 0; b < 5; b++) {
                int both = 1 << a | 1 << b;
                for (int s = 0; s < 32; s++) {
                    if (a != b && (s & both) == 0) {
                        CoalitionValues x = new CoalitionValues();
                        x.worth(s | 1 << a, 1);
                        check.due("alike(" + a + ", " + b + ") with a gain at " + s, x.alike(a, b), false);
                        x.worth(s | 1 << b, 1);
                        check.due("alike(" + a + ", " + b + ") with the same at " + s, x.alike(a, b), true);
                        x.worth(s | both, -1000);
                        check.due("alike(" + a + ", " + b + ") with less for both at " + s, x.alike(a, b), true);
                    }
                }
            }
        }
    }

    /** Margins at their edges, 2000 and -2000, and one off them. */
    private static void takesTheEdges(Check check) {
        CoalitionValues x = new CoalitionValues();
        x.worth(28, -1000);
        x.worth(29, 1000);
        x.worth(30, 1000);
        check.due("alike(0, 1) with the greatest margins", x.alike(0, 1), true);
        x.worth(30, 999);
        check.due("alike(0, 1) with one less", x.alike(0, 1), false);
        x.worth(28, 1000);
        x.worth(29, -1000);
        x.worth(30, -1000);
        check.due("alike(0, 1) with the least margins", x.alike(0, 1), true);
        x.worth(29, -999);
        check.due("alike(0, 1) with one more", x.alike(0, 1), false);
        x.worth(29, 1000);
        check.due("alike(0, 1) with margins farthest apart", x.alike(0, 1), false);
    }

    /** Terms: "A player not in 0 to 4 is [...] false for booleans", the first one, and the call changes nothing. */
    private static void refusesTheFirstOutside(Check check) {
        for (int bad : Games.BAD_PLAYERS) {
            for (int p = 0; p < 5; p++) {
                int good = p;
                Untouched.due(check, "alike(" + bad + ", " + good + ")", x -> x.alike(bad, good) ? 1 : 0, 0);
            }
        }
    }

    /** The same for the second one. */
    private static void refusesTheSecondOutside(Check check) {
        for (int bad : Games.BAD_PLAYERS) {
            for (int p = 0; p < 5; p++) {
                int good = p;
                Untouched.due(check, "alike(" + good + ", " + bad + ")", x -> x.alike(good, bad) ? 1 : 0, 0);
            }
        }
    }

    /** Both outside: false even for the same one twice. */
    private static void refusesBothOutside(Check check) {
        for (int bad : Games.BAD_PLAYERS) {
            int[] others = {-1, 5, bad, Integer.MIN_VALUE, Integer.MAX_VALUE};
            for (int other : others) {
                Untouched.due(check, "alike(" + bad + ", " + other + ")", x -> x.alike(bad, other) ? 1 : 0, 0);
            }
        }
    }
}
