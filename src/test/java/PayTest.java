/** Promise 3: pay. */
public final class PayTest {
    public static void main(String[] args) {
        Check check = new Check();
        setsJustOne(check);
        takesEveryPlayer(check);
        takesTheEdges(check);
        takesTheEdgesForAllFive(check);
        refusesPlayersOutside(check);
        refusesAmountsOutside(check);
        keepsTheAmountAfterARefusal(check);
        check.end();
    }

    private static void setsJustOne(Check check) {
        for (int p = 0; p < 5; p++) {
            int[] amounts = {11, -22, 33, -44, 55};
            CoalitionValues x = new CoalitionValues();
            Games.payAll(x, amounts);
            check.due("pay(" + p + ", 77)", x.pay(p, 77), 0);
            check.due("pay(" + p + ", -78)", x.pay(p, -78), 0);
            amounts[p] = -78;
            Games.dueAmounts(check, "after pay to " + p, x, amounts);
        }
        int[] worths = Games.allDifferent();
        CoalitionValues y = Games.withWorths(worths);
        Games.payAll(y, new int[] {1, 2, 3, 4, 5});
        Games.dueWorths(check, "after pay", y, worths);
    }

    /** Within "0 to 4" the least player, the greatest and all between are taken: "Else answers 0". */
    private static void takesEveryPlayer(Check check) {
        for (int p = 0; p < 5; p++) {
            int[] tried = {0, 1, -1, -2, -3, 42, 0};
            CoalitionValues x = new CoalitionValues();
            for (int amount : tried) {
                check.due("pay(" + p + ", " + amount + ")", x.pay(p, amount), 0);
            }
            check.due("pay(" + p + ", -3)", x.pay(p, -3), 0);
            check.due("the amount of player " + p, Games.amountOf(x, p), -3);
        }
    }

    /** Within "-10000 to 10000" the least amount and the greatest are taken, and the ones next to them. */
    private static void takesTheEdges(Check check) {
        int[] edges = {-10000, -9999, -5000, -1, 0, 1, 5000, 9999, 10000};
        for (int p = 0; p < 5; p++) {
            for (int amount : edges) {
                CoalitionValues x = new CoalitionValues();
                check.due("pay(" + p + ", " + amount + ")", x.pay(p, amount), 0);
                check.due("the amount of player " + p, Games.amountOf(x, p), amount);
            }
        }
    }

    /** Terms: "a coalition's SHARE is the sum of its players' amounts", also when all are at their edge. */
    private static void takesTheEdgesForAllFive(Check check) {
        CoalitionValues x = new CoalitionValues();
        Games.payAll(x, new int[] {-10000, -10000, -10000, -10000, -10000});
        check.due("complaint() when all five pay most", x.complaint(), 40000);
        Games.payAll(x, new int[] {10000, 10000, 10000, 10000, 10000});
        check.due("complaint() when all five get most", x.complaint(), -10000);
        Games.payAll(x, new int[] {10000, -10000, 10000, -10000, 0});
        check.due("complaint() when they even out", x.complaint(), 20000);
        check.due("inCore() when they even out", x.inCore(), false);
    }

    /** "player not in 0 to 4: BAD_PLAYER [...] nothing changes then". */
    private static void refusesPlayersOutside(Check check) {
        int[] goodAmounts = {-10000, 0, 5, 10000};
        for (int bad : Games.BAD_PLAYERS) {
            for (int amount : goodAmounts) {
                Untouched.due(check, "pay(" + bad + ", " + amount + ")",
                        x -> x.pay(bad, amount), CoalitionValues.BAD_PLAYER);
            }
        }
    }

    /** "amount not in -10000 to 10000: BAD_WORTH; nothing changes then". */
    private static void refusesAmountsOutside(Check check) {
        for (int bad : Games.BAD_AMOUNTS) {
            for (int p = 0; p < 5; p++) {
                int player = p;
                Untouched.due(check, "pay(" + player + ", " + bad + ")",
                        x -> x.pay(player, bad), CoalitionValues.BAD_WORTH);
            }
        }
    }

    private static void keepsTheAmountAfterARefusal(Check check) {
        for (int p = 0; p < 5; p++) {
            CoalitionValues x = new CoalitionValues();
            check.due("pay(" + p + ", 10000)", x.pay(p, 10000), 0);
            check.due("pay(" + p + ", 10001)", x.pay(p, 10001), CoalitionValues.BAD_WORTH);
            check.due("the amount of player " + p, Games.amountOf(x, p), 10000);
            check.due("pay(" + p + ", -10000)", x.pay(p, -10000), 0);
            check.due("pay(" + p + ", -10001)", x.pay(p, -10001), CoalitionValues.BAD_WORTH);
            check.due("the amount of player " + p, Games.amountOf(x, p), -10000);
        }
    }
}
