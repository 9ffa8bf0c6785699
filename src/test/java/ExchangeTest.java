/** Promise 5: exchange. */
public final class ExchangeTest {
    public static void main(String[] args) {
        Check check = new Check();
        worthsGoAlong(check);
        anExample(check);
        paymentStays(check);
        onePlayerWithItself(check);
        takesWorthsAtTheEdges(check);
        paymentStaysAtTheEdges(check);
        refusesTheFirstOutside(check);
        refusesTheSecondOutside(check);
        refusesBothOutside(check);
        check.end();
    }

    private static void worthsGoAlong(Check check) {
        for (int a = 0; a < 5; a++) {
            for (int b = 0; b < 5; b++) {
                Model model = new Model();
                System.arraycopy(Games.allDifferent(), 0, model.worths, 0, 32);
                CoalitionValues x = Games.withWorths(model.worths);
                String call = "exchange(" + a + ", " + b + ")";
                model.exchange(a, b);
                check.due(call, x.exchange(a, b), 0);
                Games.dueWorths(check, call, x, model.worths);
                check.due(call + " back", x.exchange(b, a), 0);
                Games.dueWorths(check, call + " back", x, Games.allDifferent());
            }
        }
    }

    private static void anExample(Check check) {
        CoalitionValues x = new CoalitionValues();
        x.worth(1, 10);
        x.worth(5, 20);
        x.worth(9, 30);
        x.worth(13, 40);
        check.due("exchange(0, 3)", x.exchange(0, 3), 0);
        check.due("the worth of 1", Games.worthOf(x, 1), 0);
        check.due("the worth of 8", Games.worthOf(x, 8), 10);
        check.due("the worth of 5", Games.worthOf(x, 5), 0);
        check.due("the worth of 12", Games.worthOf(x, 12), 20);
        check.due("the worth of 9", Games.worthOf(x, 9), 30);
        check.due("the worth of 13", Games.worthOf(x, 13), 40);
    }

    private static void paymentStays(Check check) {
        int[] amounts = {11, -22, 33, -44, 55};
        for (int a = 0; a < 5; a++) {
            for (int b = 0; b < 5; b++) {
                CoalitionValues x = new CoalitionValues();
                Games.payAll(x, amounts);
                x.exchange(a, b);
                Games.dueAmounts(check, "after exchange(" + a + ", " + b + ")", x, amounts);
            }
        }
    }

    /** "Else answers 0.": a player exchanged with itself is in 0 to 4 too, and every place is the same as before. */
    private static void onePlayerWithItself(Check check) {
        for (int p = 0; p < 5; p++) {
            int player = p;
            Untouched.due(check, "exchange(" + p + ", " + p + ")", x -> x.exchange(player, player), 0);
        }
    }

    /** The least and the greatest worth go along as they are, and the empty one keeps 0. */
    private static void takesWorthsAtTheEdges(Check check) {
        for (int a = 0; a < 5; a++) {
            for (int b = 0; b < 5; b++) {
                Model model = new Model();
                System.arraycopy(Games.atTheEdges(), 0, model.worths, 0, 32);
                CoalitionValues x = Games.withWorths(model.worths);
                String call = "exchange(" + a + ", " + b + ")";
                model.exchange(a, b);
                check.due(call + " at the edges", x.exchange(a, b), 0);
                check.due("the worth of nobody after " + call, Games.worthOfTheEmptyOne(x, model.worths), 0);
                Games.dueWorths(check, call + " at the edges", x, model.worths);
            }
        }
    }

    /** "the payment stays", also where it is at its edges. */
    private static void paymentStaysAtTheEdges(Check check) {
        int[] amounts = {10000, -10000, 9999, -9999, 0};
        for (int a = 0; a < 5; a++) {
            for (int b = 0; b < 5; b++) {
                for (int p = 0; p < 5; p++) {
                    CoalitionValues x = Games.withWorths(Games.atTheEdges());
                    Games.payAll(x, amounts);
                    x.exchange(a, b);
                    check.due("the amount of player " + p + " after exchange(" + a + ", " + b + ")",
                            Games.amountOf(x, p), amounts[p]);
                }
            }
        }
    }

    /** "a [...] not in 0 to 4: BAD_PLAYER, nothing changes". */
    private static void refusesTheFirstOutside(Check check) {
        for (int bad : Games.BAD_PLAYERS) {
            for (int good = 0; good < 5; good++) {
                int b = good;
                Untouched.due(check, "exchange(" + bad + ", " + b + ")",
                        x -> x.exchange(bad, b), CoalitionValues.BAD_PLAYER);
            }
        }
    }

    /** "[...] or b not in 0 to 4: BAD_PLAYER, nothing changes". */
    private static void refusesTheSecondOutside(Check check) {
        for (int good = 0; good < 5; good++) {
            int a = good;
            for (int bad : Games.BAD_PLAYERS) {
                Untouched.due(check, "exchange(" + a + ", " + bad + ")",
                        x -> x.exchange(a, bad), CoalitionValues.BAD_PLAYER);
            }
        }
    }

    /** Both outside, the same twice among them. */
    private static void refusesBothOutside(Check check) {
        for (int bad : Games.BAD_PLAYERS) {
            int[] others = {-1, 5, bad, Integer.MIN_VALUE, Integer.MAX_VALUE};
            for (int other : others) {
                Untouched.due(check, "exchange(" + bad + ", " + other + ")",
                        x -> x.exchange(bad, other), CoalitionValues.BAD_PLAYER);
            }
        }
    }
}
