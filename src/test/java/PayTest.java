/** Promise 3: pay. */
public final class PayTest {
    public static void main(String[] args) {
        Check check = new Check();
        setsJustOne(check);
        takesTheEdges(check);
        refusesWrongInputs(check);
        check.end();
    }

    private static void setsJustOne(Check check) {
        for (int p = 0; p < 5; p++) {
            int[] amounts = {11, -22, 33, -44, 55};
            CoalitionValues x = new CoalitionValues();
            Games.payAll(x, amounts);
            check.due("pay(" + p + ", 77)", x.pay(p, 77), 0);
            check.due("pay(" + p + ", -78)", x.pay(p, -78), 0);
            amounts[p] = -78;
            Games.dueAmounts(check, "after pay to " + p, x, amounts);
        }
        int[] worths = Games.allDifferent();
        CoalitionValues y = Games.withWorths(worths);
        Games.payAll(y, new int[] {1, 2, 3, 4, 5});
        Games.dueWorths(check, "after pay", y, worths);
    }

    private static void takesTheEdges(Check check) {
        for (int p = 0; p < 5; p++) {
            CoalitionValues x = new CoalitionValues();
            check.due("pay(" + p + ", 10000)", x.pay(p, 10000), 0);
            check.due("complaint() after it", x.complaint(), 0);
            check.due("inCore() after it", x.inCore(), false);
            check.due("pay(" + p + ", -10000)", x.pay(p, -10000), 0);
            check.due("complaint() after it", x.complaint(), 10000);
            check.due("pay(" + p + ", 0)", x.pay(p, 0), 0);
            check.due("inCore() after it", x.inCore(), true);
        }
    }

    private static void refusesWrongInputs(Check check) {
        int[] amounts = {11, -22, 33, -44, 55};
        CoalitionValues x = new CoalitionValues();
        Games.payAll(x, amounts);
        for (int bad : Games.BAD_PLAYERS) {
            check.due("pay(" + bad + ", 5)", x.pay(bad, 5), CoalitionValues.BAD_PLAYER);
        }
        int[] badAmounts = {10001, -10001, 100000, Integer.MAX_VALUE, Integer.MIN_VALUE};
        for (int bad : badAmounts) {
            for (int p = 0; p < 5; p++) {
                check.due("pay(" + p + ", " + bad + ")", x.pay(p, bad), CoalitionValues.BAD_WORTH);
            }
        }
        Games.dueAmounts(check, "after wrong payments", x, amounts);
    }
}
