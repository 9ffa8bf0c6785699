import java.util.Arrays;

/** Promise 6: orderValue. */
public final class OrderValueTest {
    public static void main(String[] args) {
        Check check = new Check();
        oneWorthAtATime(check);
        orderByOrder(check, Games.allDifferent());
        orderByOrder(check, Games.atTheEdges());
        examples(check);
        comesFirstAndLast(check);
        greatestAndLeast(check);
        answersNextToTheConstants(check);
        refusesPlayersOutside(check);
        check.end();
    }

    private static void oneWorthAtATime(Check check) {
        for (int s = 1; s < 32; s++) {
            Model model = new Model();
            model.worth(s, 1);
            CoalitionValues x = new CoalitionValues();
            x.worth(s, 1);
            for (int p = 0; p < 5; p++) {
                check.due("orderValue(" + p + ") with only the worth of " + s,
                        x.orderValue(p), model.orderValue(p));
            }
        }
    }

    /** "over all 120 orders in which the five may come one after the other": each order is gone through by itself. */
    private static void orderByOrder(Check check, int[] worths) {
        int[] sums = new int[5];
        int orders = 0;
        for (int way = 0; way < 3125; way++) {
            int[] order = {way % 5, way / 5 % 5, way / 25 % 5, way / 125 % 5, way / 625};
            if (Arrays.stream(order).distinct().count() == 5) {
                orders++;
                int before = 0;
                for (int p : order) {
                    sums[p] += worths[before | 1 << p] - worths[before];
                    before |= 1 << p;
                }
            }
        }
        check.due("the number of orders", orders, 120);
        CoalitionValues x = Games.withWorths(worths);
        for (int p = 0; p < 5; p++) {
            check.due("orderValue(" + p + ") order by order", x.orderValue(p), sums[p]);
        }
    }

    private static void examples(Check check) {
        CoalitionValues x = new CoalitionValues();
        x.worth(31, 1000);
        for (int p = 0; p < 5; p++) {
            check.due("orderValue(" + p + ") of a thousand for all", x.orderValue(p), 24000);
        }
        CoalitionValues y = Games.withWorths(Games.additive(new int[] {1, -2, 30, 0, -100}));
        check.due("orderValue(0) of an additive game", y.orderValue(0), 120);
        check.due("orderValue(1) of an additive game", y.orderValue(1), -240);
        check.due("orderValue(2) of an additive game", y.orderValue(2), 3600);
        check.due("orderValue(3) of an additive game", y.orderValue(3), 0);
        check.due("orderValue(4) of an additive game", y.orderValue(4), -12000);
    }

    /** "at the set of those who came before": nobody came before in 24 orders, and nobody comes after in 24. */
    private static void comesFirstAndLast(Check check) {
        for (int p = 0; p < 5; p++) {
            CoalitionValues first = new CoalitionValues();
            first.worth(1 << p, 7);
            check.due("orderValue(" + p + ") that gains when first", first.orderValue(p), 24 * 7);
            CoalitionValues last = new CoalitionValues();
            last.worth(31 - (1 << p), 7);
            check.due("orderValue(" + p + ") that loses when last", last.orderValue(p), -24 * 7);
            last.worth(31, 7);
            check.due("orderValue(" + p + ") that loses nothing when last", last.orderValue(p), 0);
        }
    }

    /** The greatest and the least that worths in -1000 to 1000 can give; first of all the margin is at the empty 0. */
    private static void greatestAndLeast(Check check) {
        for (int p = 0; p < 5; p++) {
            int[] worths = new int[32];
            int[] turned = new int[32];
            for (int s = 1; s < 32; s++) {
                worths[s] = (s >> p & 1) != 0 ? 1000 : -1000;
                turned[s] = -worths[s];
            }
            check.due("the greatest orderValue(" + p + ")", Games.withWorths(worths).orderValue(p), 216000);
            check.due("the least orderValue(" + p + ")", Games.withWorths(turned).orderValue(p), -216000);
        }
    }

    /**
     * "(Answers may equal BAD_PLAYER.)" The weights 24, 6 and 4 are even, so -3 itself cannot come;
     * the answers next to it, and those equal to other constants, come like any other.
     */
    private static void answersNextToTheConstants(Check check) {
        CoalitionValues x = new CoalitionValues();
        x.worth(7, -1);
        check.due("orderValue(0), next to BAD_PLAYER", x.orderValue(0), -4);
        x.worth(7, 1);
        x.worth(3, -1);
        check.due("orderValue(0), equal to BAD_WORTH", x.orderValue(0), -2);
    }

    /** Terms: "A player not in 0 to 4 is BAD_PLAYER", and the call changes nothing. */
    private static void refusesPlayersOutside(Check check) {
        for (int bad : Games.BAD_PLAYERS) {
            Untouched.due(check, "orderValue(" + bad + ")", x -> x.orderValue(bad), CoalitionValues.BAD_PLAYER);
        }
    }
}
