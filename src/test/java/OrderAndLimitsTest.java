/** Promise 15: order and limits. */
public final class OrderAndLimitsTest {
    public static void main(String[] args) {
        Check check = new Check();
        worthTestsTheCoalitionFirst(check);
        payTestsThePlayerFirst(check);
        oneWrongAtATime(check);
        check.end();
    }

    /** "worth: BAD_COALITION is tested before BAD_WORTH." */
    private static void worthTestsTheCoalitionFirst(Check check) {
        for (int coalition : Games.BAD_COALITIONS) {
            for (int worth : Games.BAD_WORTHS) {
                Untouched.due(check, "worth(" + coalition + ", " + worth + ")",
                        x -> x.worth(coalition, worth), CoalitionValues.BAD_COALITION);
            }
        }
    }

    /** "pay: BAD_PLAYER is tested before BAD_WORTH." */
    private static void payTestsThePlayerFirst(Check check) {
        for (int player : Games.BAD_PLAYERS) {
            for (int amount : Games.BAD_AMOUNTS) {
                Untouched.due(check, "pay(" + player + ", " + amount + ")",
                        x -> x.pay(player, amount), CoalitionValues.BAD_PLAYER);
            }
        }
    }

    /** Each side of the borders with the other argument good, so that neither test swallows the other. */
    private static void oneWrongAtATime(Check check) {
        CoalitionValues x = new CoalitionValues();
        check.due("worth(31, 1000)", x.worth(31, 1000), 0);
        check.due("worth(32, 1000)", x.worth(32, 1000), CoalitionValues.BAD_COALITION);
        check.due("worth(31, 1001)", x.worth(31, 1001), CoalitionValues.BAD_WORTH);
        check.due("worth(32, 1001)", x.worth(32, 1001), CoalitionValues.BAD_COALITION);
        check.due("worth(1, -1000)", x.worth(1, -1000), 0);
        check.due("worth(0, -1000)", x.worth(0, -1000), CoalitionValues.BAD_COALITION);
        check.due("worth(1, -1001)", x.worth(1, -1001), CoalitionValues.BAD_WORTH);
        check.due("worth(0, -1001)", x.worth(0, -1001), CoalitionValues.BAD_COALITION);
        check.due("pay(4, 10000)", x.pay(4, 10000), 0);
        check.due("pay(5, 10000)", x.pay(5, 10000), CoalitionValues.BAD_PLAYER);
        check.due("pay(4, 10001)", x.pay(4, 10001), CoalitionValues.BAD_WORTH);
        check.due("pay(5, 10001)", x.pay(5, 10001), CoalitionValues.BAD_PLAYER);
        check.due("pay(0, -10000)", x.pay(0, -10000), 0);
        check.due("pay(-1, -10000)", x.pay(-1, -10000), CoalitionValues.BAD_PLAYER);
        check.due("pay(0, -10001)", x.pay(0, -10001), CoalitionValues.BAD_WORTH);
        check.due("pay(-1, -10001)", x.pay(-1, -10001), CoalitionValues.BAD_PLAYER);
        check.due("worth(31, 0) after all that", x.worth(31, 0), 1000);
        check.due("worth(1, 0) after all that", x.worth(1, 0), -1000);
    }
}
