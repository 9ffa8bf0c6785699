/** Promise 5: exchange. */
public final class ExchangeTest {
    public static void main(String[] args) {
        Check check = new Check();
        worthsGoAlong(check);
        anExample(check);
        paymentStays(check);
        refusesWrongPlayers(check);
        check.end();
    }

    private static void worthsGoAlong(Check check) {
        for (int a = 0; a < 5; a++) {
            for (int b = 0; b < 5; b++) {
                Model model = new Model();
                System.arraycopy(Games.allDifferent(), 0, model.worths, 0, 32);
                CoalitionValues x = Games.withWorths(model.worths);
                String call = "exchange(" + a + ", " + b + ")";
                model.exchange(a, b);
                check.due(call, x.exchange(a, b), 0);
                Games.dueWorths(check, call, x, model.worths);
                check.due(call + " back", x.exchange(b, a), 0);
                Games.dueWorths(check, call + " back", x, Games.allDifferent());
            }
        }
    }

    private static void anExample(Check check) {
        CoalitionValues x = new CoalitionValues();
        x.worth(1, 10);
        x.worth(5, 20);
        x.worth(9, 30);
        x.worth(13, 40);
        check.due("exchange(0, 3)", x.exchange(0, 3), 0);
        check.due("the worth of 1", Games.worthOf(x, 1), 0);
        check.due("the worth of 8", Games.worthOf(x, 8), 10);
        check.due("the worth of 5", Games.worthOf(x, 5), 0);
        check.due("the worth of 12", Games.worthOf(x, 12), 20);
        check.due("the worth of 9", Games.worthOf(x, 9), 30);
        check.due("the worth of 13", Games.worthOf(x, 13), 40);
    }

    private static void paymentStays(Check check) {
        int[] amounts = {11, -22, 33, -44, 55};
        for (int a = 0; a < 5; a++) {
            for (int b = 0; b < 5; b++) {
                CoalitionValues x = new CoalitionValues();
                Games.payAll(x, amounts);
                x.exchange(a, b);
                Games.dueAmounts(check, "after exchange(" + a + ", " + b + ")", x, amounts);
            }
        }
    }

    private static void refusesWrongPlayers(Check check) {
        int[] worths = Games.allDifferent();
        CoalitionValues x = Games.withWorths(worths);
        for (int bad : Games.BAD_PLAYERS) {
            for (int good = 0; good < 5; good++) {
                check.due("exchange(" + bad + ", " + good + ")", x.exchange(bad, good), CoalitionValues.BAD_PLAYER);
                check.due("exchange(" + good + ", " + bad + ")", x.exchange(good, bad), CoalitionValues.BAD_PLAYER);
            }
            check.due("exchange(" + bad + ", " + bad + ")", x.exchange(bad, bad), CoalitionValues.BAD_PLAYER);
        }
        Games.dueWorths(check, "after wrong exchanges", x, worths);
    }
}
