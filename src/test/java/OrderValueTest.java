/** Promise 6: orderValue. */
public final class OrderValueTest {
    public static void main(String[] args) {
        Check check = new Check();
        oneWorthAtATime(check);
        examples(check);
        refusesWrongPlayers(check);
        check.end();
    }

    private static void oneWorthAtATime(Check check) {
        for (int s = 1; s < 32; s++) {
            Model model = new Model();
            model.worth(s, 1);
            CoalitionValues x = new CoalitionValues();
            x.worth(s, 1);
            for (int p = 0; p < 5; p++) {
                check.due("orderValue(" + p + ") with only the worth of " + s,
                        x.orderValue(p), model.orderValue(p));
            }
        }
    }

    private static void examples(Check check) {
        CoalitionValues x = new CoalitionValues();
        x.worth(31, 1000);
        for (int p = 0; p < 5; p++) {
            check.due("orderValue(" + p + ") of a thousand for all", x.orderValue(p), 24000);
        }
        CoalitionValues y = Games.withWorths(Games.additive(new int[] {1, -2, 30, 0, -100}));
        check.due("orderValue(0) of an additive game", y.orderValue(0), 120);
        check.due("orderValue(1) of an additive game", y.orderValue(1), -240);
        check.due("orderValue(2) of an additive game", y.orderValue(2), 3600);
        check.due("orderValue(3) of an additive game", y.orderValue(3), 0);
        check.due("orderValue(4) of an additive game", y.orderValue(4), -12000);
        greatestAndLeast(check, 1000, 240000);
        greatestAndLeast(check, -1000, -240000);
    }

    private static void greatestAndLeast(Check check, int worthWithTwo, int due) {
        int[] worths = new int[32];
        for (int s = 1; s < 32; s++) {
            worths[s] = (s & 4) != 0 ? worthWithTwo : -worthWithTwo;
        }
        // At the empty coalition the margin is half as great, in 24 of the orders.
        check.due("orderValue(2) at its edge", Games.withWorths(worths).orderValue(2), due - 24 * worthWithTwo);
    }

    private static void refusesWrongPlayers(Check check) {
        CoalitionValues x = Games.withWorths(Games.allDifferent());
        for (int bad : Games.BAD_PLAYERS) {
            check.due("orderValue(" + bad + ")", x.orderValue(bad), CoalitionValues.BAD_PLAYER);
        }
    }
}
