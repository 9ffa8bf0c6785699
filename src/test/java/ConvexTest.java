/** Promise 11: convex. */
public final class ConvexTest {
    public static void main(String[] args) {
        Check check = new Check();
        everyPairCounts(check);
        theEmptyOneIsACoalition(check);
        takesTheEdges(check);
        examples(check);
        check.end();
    }

    /**
     * "is at least the sum": in an additive game both sides are always equal,
     * so any change of one worth breaks it, but for more to all five.
     */
    private static void everyPairCounts(Check check) {
        int[] worths = Games.additive(new int[] {5, -7, 11, 0, -2});
        check.due("convex() of an additive game", Games.withWorths(worths).convex(), true);
        for (int s = 1; s < 32; s++) {
            CoalitionValues x = Games.withWorths(worths);
            x.worth(s, worths[s] + 1);
            check.due("convex() with one more for " + s, x.convex(), s == 31);
            x.worth(s, worths[s] - 1);
            check.due("convex() with one less for " + s, x.convex(), false);
        }
        for (int a = 0; a < 5; a++) {
            for (int b = 0; b < a; b++) {
                for (int s = 0; s < 32; s++) {
                    if ((s >> a & 1) == 0 && (s >> b & 1) == 0) {
                        onePairAtItsBorder(check, s | 1 << a, s | 1 << b);
                    }
                }
            }
        }
    }

    /** "any two coalitions": two without a common player meet in the empty one, whose worth is 0. */
    private static void theEmptyOneIsACoalition(Check check) {
        for (int a = 0; a < 5; a++) {
            for (int b = 0; b < a; b++) {
                CoalitionValues x = Games.withWorths(Games.additive(new int[] {-1, -1, -1, -1, -1}));
                x.worth(1 << a, 0);
                check.due("convex() with 0 for player " + a + " alone", x.convex(), false);
                x.worth(1 << a, -2);
                check.due("convex() with -2 for player " + a + " alone", x.convex(), false);
                CoalitionValues y = Games.withWorths(Games.bySize(0, 0, 0, 0, 0));
                y.worth(1 << a | 1 << b, -1);
                check.due("convex() with -1 for " + a + " and " + b, y.convex(), false);
            }
        }
        CoalitionValues z = Games.withWorths(Games.bySize(-1, -1, -1, -1, -1));
        check.due("convex() of the same loss for all", z.convex(), true);
        CoalitionValues w = Games.withWorths(Games.bySize(1, 1, 1, 1, 1));
        check.due("convex() of the same gain for all", w.convex(), false);
    }

    /** The least and the greatest worths, where the two sums are farthest apart and where they are equal. */
    private static void takesTheEdges(Check check) {
        CoalitionValues x = Games.withWorths(Games.bySize(-1000, -1000, -1000, -1000, 1000));
        check.due("convex() when all but the five have least", x.convex(), true);
        CoalitionValues y = Games.withWorths(Games.bySize(1000, 1000, 1000, 1000, -1000));
        check.due("convex() when all but the five have most", y.convex(), false);
        CoalitionValues z = Games.withWorths(Games.additive(new int[] {200, 200, 200, 200, 200}));
        check.due("convex() of the greatest additive game", z.convex(), true);
        z.worth(31, 999);
        check.due("convex() with one less for all five", z.convex(), false);
        CoalitionValues w = Games.withWorths(Games.additive(new int[] {-200, -200, -200, -200, -200}));
        check.due("convex() of the least additive game", w.convex(), true);
        w.worth(30, -799);
        check.due("convex() with one more for 30", w.convex(), false);
    }

    /** Ten times the squares leave 20 to spare at each such pair; the two raises use it up at this pair alone. */
    private static void onePairAtItsBorder(Check check, int s, int t) {
        int[] worths = Games.bySize(10, 40, 90, 160, 250);
        worths[s] += 10;
        worths[t] += 10;
        CoalitionValues x = Games.withWorths(worths);
        check.due("convex() with just enough at " + s + " and " + t, x.convex(), true);
        x.worth(s, worths[s] + 1);
        check.due("convex() with one too few at " + s + " and " + t, x.convex(), false);
    }

    private static void examples(Check check) {
        check.due("convex() of squares", Games.withWorths(Games.squares()).convex(), true);
        CoalitionValues x = new CoalitionValues();
        x.weigh(0x11111, 3);
        check.due("convex() of the majority game", x.convex(), false);
        x.weigh(0x11111, 5);
        check.due("convex() when all are needed", x.convex(), true);
        CoalitionValues y = Games.withWorths(Games.bySize(0, 2, 3, 6, 10));
        check.due("convex() of a superadditive game only", y.convex(), false);
        CoalitionValues z = Games.withWorths(Games.bySize(-1000, -1000, -1000, -1000, 1000));
        check.due("convex() when only all five gain", z.convex(), true);
        z.worth(3, -999);
        check.due("convex() when one pair loses less", z.convex(), false);
        CoalitionValues w = Games.withWorths(Games.bySize(-1, -2, -3, -4, -5));
        check.due("convex() of an additive loss", w.convex(), true);
    }
}
