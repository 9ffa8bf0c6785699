/** Promise 15: order and limits. */
public final class OrderAndLimitsTest {
    public static void main(String[] args) {
        Check check = new Check();
        int[] badNumbers = {10001, -10001, Integer.MAX_VALUE, Integer.MIN_VALUE};
        int[] worths = Games.allDifferent();
        CoalitionValues x = Games.withWorths(worths);
        int[] amounts = {11, -22, 33, -44, 55};
        Games.payAll(x, amounts);
        for (int number : badNumbers) {
            for (int bad : Games.BAD_COALITIONS) {
                check.due("worth(" + bad + ", " + number + ")", x.worth(bad, number), CoalitionValues.BAD_COALITION);
            }
            for (int bad : Games.BAD_PLAYERS) {
                check.due("pay(" + bad + ", " + number + ")", x.pay(bad, number), CoalitionValues.BAD_PLAYER);
            }
        }
        check.due("worth(0, 1001)", x.worth(0, 1001), CoalitionValues.BAD_COALITION);
        check.due("worth(32, -1001)", x.worth(32, -1001), CoalitionValues.BAD_COALITION);
        Games.dueWorths(check, "after wrong calls", x, worths);
        Games.dueAmounts(check, "after wrong calls", x, amounts);
        check.end();
    }
}
