/** Promise 12: superadditive. */
public final class SuperadditiveTest {
    public static void main(String[] args) {
        Check check = new Check();
        everyPairCounts(check);
        theEmptyOneIsACoalition(check);
        onesWithACommonPlayerDoNotCount(check);
        takesTheEdges(check);
        examples(check);
        check.end();
    }

    /** "is at least the sum": in an additive game both are equal, and one less for a union is too few. */
    private static void everyPairCounts(Check check) {
        int[] worths = Games.additive(new int[] {5, -7, 11, 0, -2});
        check.due("superadditive() of an additive game", Games.withWorths(worths).superadditive(), true);
        for (int s = 1; s < 32; s++) {
            CoalitionValues x = Games.withWorths(worths);
            x.worth(s, worths[s] + 1);
            check.due("superadditive() with one more for " + s, x.superadditive(), s == 31);
            x.worth(s, worths[s] - 1);
            check.due("superadditive() with one less for " + s, x.superadditive(), Integer.bitCount(s) == 1);
        }
        for (int s = 1; s < 32; s++) {
            for (int t = 1; t < 32; t++) {
                if ((s & t) == 0) {
                    onePairAtItsBorder(check, s, t);
                }
            }
        }
    }

    /**
     * Each of the two is worth 10 to any coalition that holds it, others lose:
     * only this pair's union can fall short.
     */
    private static void onePairAtItsBorder(Check check, int s, int t) {
        int[] worths = new int[32];
        for (int u = 1; u < 32; u++) {
            boolean holdsS = (u & s) == s;
            boolean holdsT = (u & t) == t;
            worths[u] = holdsS && holdsT ? 20 : holdsS || holdsT ? 10 : -1000;
        }
        CoalitionValues x = Games.withWorths(worths);
        check.due("superadditive() with just enough at " + s + " and " + t, x.superadditive(), true);
        x.worth(s | t, 19);
        check.due("superadditive() with one too few at " + s + " and " + t, x.superadditive(), false);
    }

    /** "any two coalitions": with the empty one any coalition has its own worth, a loss too. */
    private static void theEmptyOneIsACoalition(Check check) {
        CoalitionValues x = Games.withWorths(Games.bySize(-1, -1, -1, -1, -1));
        check.due("superadditive() of the same loss for all", x.superadditive(), true);
        CoalitionValues y = Games.withWorths(Games.bySize(1, 1, 1, 1, 1));
        check.due("superadditive() of the same gain for all", y.superadditive(), false);
        CoalitionValues z = Games.withWorths(Games.bySize(-1000, -1000, -1000, -1000, -1000));
        check.due("superadditive() of the least for all", z.superadditive(), true);
    }

    /** "without a common player": two that share one may have more than their union. */
    private static void onesWithACommonPlayerDoNotCount(Check check) {
        CoalitionValues x = Games.withWorths(Games.bySize(0, 5, 5, 10, 10));
        check.due("superadditive() though pairs with a common player gain", x.superadditive(), true);
        CoalitionValues y = Games.withWorths(Games.bySize(-500, -500, 1000, 500, 500));
        check.due("superadditive() though triples gain most", y.superadditive(), true);
        y.worth(31, 499);
        check.due("superadditive() with one less for all five", y.superadditive(), false);
    }

    /** The least and the greatest worths, where the sum of two is outside what a worth can be. */
    private static void takesTheEdges(Check check) {
        CoalitionValues x = Games.withWorths(Games.bySize(1000, 1000, 1000, 1000, 1000));
        check.due("superadditive() of the greatest for all", x.superadditive(), false);
        CoalitionValues y = Games.withWorths(Games.bySize(-1000, -1000, -1000, -1000, 1000));
        check.due("superadditive() when only all five gain", y.superadditive(), true);
        CoalitionValues z = Games.withWorths(Games.bySize(-1000, 1000, 0, 1000, 1000));
        check.due("superadditive() when two pairs have too much", z.superadditive(), false);
        CoalitionValues w = Games.withWorths(Games.additive(new int[] {200, 200, 200, 200, 200}));
        check.due("superadditive() of the greatest additive game", w.superadditive(), true);
        w.worth(31, 999);
        check.due("superadditive() with one less for all five", w.superadditive(), false);
    }

    private static void examples(Check check) {
        check.due("superadditive() of squares", Games.withWorths(Games.squares()).superadditive(), true);
        CoalitionValues x = new CoalitionValues();
        x.weigh(0x11111, 3);
        check.due("superadditive() of the majority game", x.superadditive(), true);
        x.weigh(0x11111, 2);
        check.due("superadditive() when two win against two", x.superadditive(), false);
        CoalitionValues y = Games.withWorths(Games.bySize(0, 2, 3, 6, 10));
        check.due("superadditive() though not convex", y.superadditive(), true);
    }
}
