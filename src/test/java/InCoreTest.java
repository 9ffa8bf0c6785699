/** Promise 10: inCore. */
public final class InCoreTest {
    private static final int[] AMOUNTS = {7, -3, 12, 0, -9};

    public static void main(String[] args) {
        Check check = new Check();
        everyCoalitionMustHaveItsWorth(check);
        theFiveMustHaveJustTheirWorth(check);
        examples(check);
        check.end();
    }

    private static void everyCoalitionMustHaveItsWorth(Check check) {
        int[] worths = Games.additive(AMOUNTS);
        for (int s = 1; s <= 30; s++) {
            CoalitionValues x = Games.withWorths(worths);
            Games.payAll(x, AMOUNTS);
            check.due("inCore() of shares equal to worths", x.inCore(), true);
            x.worth(s, worths[s] + 1);
            check.due("inCore() with one more for " + s, x.inCore(), false);
            x.worth(s, worths[s] - 1);
            check.due("inCore() with one less for " + s, x.inCore(), true);
        }
    }

    private static void theFiveMustHaveJustTheirWorth(Check check) {
        int[] worths = Games.additive(AMOUNTS);
        CoalitionValues x = Games.withWorths(worths);
        Games.payAll(x, AMOUNTS);
        x.worth(31, worths[31] + 1);
        check.due("inCore() with one more for all five", x.inCore(), false);
        x.worth(31, worths[31] - 1);
        check.due("inCore() with one less for all five", x.inCore(), false);
        x.worth(31, worths[31]);
        check.due("inCore() as at first", x.inCore(), true);
        x.pay(4, AMOUNTS[4] + 1);
        check.due("inCore() with one more paid", x.inCore(), false);
        x.worth(31, worths[31] + 1);
        check.due("inCore() with one more for all five, and paid", x.inCore(), true);
    }

    private static void examples(Check check) {
        CoalitionValues x = Games.withWorths(Games.squares());
        Games.payAll(x, new int[] {5, 5, 5, 5, 5});
        check.due("inCore() of squares", x.inCore(), true);
        Games.payAll(x, new int[] {1, 3, 5, 7, 9});
        check.due("inCore() of squares at a corner", x.inCore(), true);
        Games.payAll(x, new int[] {0, 4, 5, 7, 9});
        check.due("inCore() of squares beyond the corner", x.inCore(), false);
    }
}
