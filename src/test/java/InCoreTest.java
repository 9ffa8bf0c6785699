/** Promise 10: inCore. */
public final class InCoreTest {
    private static final int[] AMOUNTS = {7, -3, 12, 0, -9};

    public static void main(String[] args) {
        Check check = new Check();
        everyCoalitionMustHaveItsWorth(check);
        theFiveMustHaveJustTheirWorth(check);
        theFiveAreNotToHaveMore(check);
        takesTheEdges(check);
        amountsAtTheEdges(check);
        examples(check);
        check.end();
    }

    /** "every coalition at least its worth": just its worth is enough, one less is not. */
    private static void everyCoalitionMustHaveItsWorth(Check check) {
        int[] worths = Games.additive(AMOUNTS);
        for (int s = 1; s <= 30; s++) {
            CoalitionValues x = Games.withWorths(worths);
            Games.payAll(x, AMOUNTS);
            check.due("inCore() of shares equal to worths", x.inCore(), true);
            x.worth(s, worths[s] + 1);
            check.due("inCore() with one more for " + s, x.inCore(), false);
            x.worth(s, worths[s] - 1);
            check.due("inCore() with one less for " + s, x.inCore(), true);
        }
    }

    /** "all five together just their worth": neither one more nor one less. */
    private static void theFiveMustHaveJustTheirWorth(Check check) {
        int[] worths = Games.additive(AMOUNTS);
        CoalitionValues x = Games.withWorths(worths);
        Games.payAll(x, AMOUNTS);
        x.worth(31, worths[31] + 1);
        check.due("inCore() with one more for all five", x.inCore(), false);
        x.worth(31, worths[31] - 1);
        check.due("inCore() with one less for all five", x.inCore(), false);
        x.worth(31, worths[31]);
        check.due("inCore() as at first", x.inCore(), true);
        x.pay(4, AMOUNTS[4] + 1);
        check.due("inCore() with one more paid", x.inCore(), false);
        x.worth(31, worths[31] + 1);
        check.due("inCore() with one more for all five, and paid", x.inCore(), true);
    }

    /** More than their worth is not just their worth, though every coalition has at least its own. */
    private static void theFiveAreNotToHaveMore(Check check) {
        CoalitionValues x = new CoalitionValues();
        for (int p = 0; p < 5; p++) {
            x.pay(p, 1);
            check.due("inCore() with 1 too much for player " + p, x.inCore(), false);
            x.worth(31, 1);
            check.due("inCore() when all five are worth that", x.inCore(), true);
            x.worth(31, 0);
            x.pay(p, 0);
            check.due("inCore() with nothing for nothing", x.inCore(), true);
        }
    }

    /** The least and the greatest worth of the five, and of a player alone. */
    private static void takesTheEdges(Check check) {
        CoalitionValues x = Games.withWorths(Games.bySize(200, 400, 600, 800, 1000));
        Games.payAll(x, new int[] {200, 200, 200, 200, 200});
        check.due("inCore() of the greatest worth for all", x.inCore(), true);
        x.pay(4, 199);
        check.due("inCore() with one too few for it", x.inCore(), false);
        CoalitionValues y = Games.withWorths(Games.bySize(-1000, -1000, -1000, -1000, -1000));
        for (int p = 0; p < 5; p++) {
            int[] amounts = new int[5];
            amounts[p] = -1000;
            Games.payAll(y, amounts);
            check.due("inCore() when player " + p + " pays for all", y.inCore(), true);
            amounts[p] = -1001;
            amounts[(p + 1) % 5] = 1;
            Games.payAll(y, amounts);
            check.due("inCore() when player " + p + " pays one too much", y.inCore(), false);
        }
    }

    /** Amounts so far out that a worth can match them only in sum. */
    private static void amountsAtTheEdges(Check check) {
        CoalitionValues x = Games.withWorths(Games.bySize(-1000, -1000, -1000, -1000, 0));
        Games.payAll(x, new int[] {10000, -10000, 10000, -10000, 0});
        check.due("inCore() of amounts that even out", x.inCore(), false);
        Games.payAll(x, new int[] {10000, 10000, 10000, 10000, 10000});
        check.due("inCore() of the greatest amounts", x.inCore(), false);
        Games.payAll(x, new int[] {-10000, -10000, -10000, -10000, -10000});
        check.due("inCore() of the least amounts", x.inCore(), false);
        Games.payAll(x, new int[] {1000, -1000, 0, 0, 0});
        check.due("inCore() of amounts just low enough", x.inCore(), true);
        Games.payAll(x, new int[] {1001, -1001, 0, 0, 0});
        check.due("inCore() of amounts one too low", x.inCore(), false);
    }

    private static void examples(Check check) {
        CoalitionValues x = Games.withWorths(Games.squares());
        Games.payAll(x, new int[] {5, 5, 5, 5, 5});
        check.due("inCore() of squares", x.inCore(), true);
        Games.payAll(x, new int[] {1, 3, 5, 7, 9});
        check.due("inCore() of squares at a corner", x.inCore(), true);
        Games.payAll(x, new int[] {0, 4, 5, 7, 9});
        check.due("inCore() of squares beyond the corner", x.inCore(), false);
    }
}
