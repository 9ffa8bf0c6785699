/** Promise 4: weigh. */
public final class WeighTest {
    public static void main(String[] args) {
        Check check = new Check();
        givesEveryWorth(check);
        takesTheEdges(check);
        looksAtTwentyBitsOnly(check);
        refusesWrongQuotas(check);
        check.end();
    }

    private static void givesEveryWorth(Check check) {
        int[] weightsTried = {0x54321, 0x11111, 0xF0001, 0x0000F, 0xF0000, 0x9A3C7, 0};
        for (int weights : weightsTried) {
            for (int quota = 1; quota <= 75; quota++) {
                Model model = new Model();
                CoalitionValues x = Games.withWorths(Games.allDifferent());
                String call = "weigh(" + weights + ", " + quota + ")";
                check.due(call, x.weigh(weights, quota), model.weigh(weights, quota));
                Games.dueWorths(check, call, x, model.worths);
            }
        }
        CoalitionValues y = new CoalitionValues();
        Games.payAll(y, new int[] {9, 8, 7, -6, -5});
        y.weigh(0x11111, 3);
        Games.dueAmounts(check, "after weigh", y, new int[] {9, 8, 7, -6, -5});
    }

    private static void takesTheEdges(Check check) {
        CoalitionValues x = new CoalitionValues();
        check.due("weigh(0x11111, 1)", x.weigh(0x11111, 1), 31);
        check.due("weigh(0x11111, 3)", x.weigh(0x11111, 3), 16);
        check.due("weigh(0x11111, 5)", x.weigh(0x11111, 5), 1);
        check.due("weigh(0x11111, 6)", x.weigh(0x11111, 6), 0);
        check.due("weigh(0xFFFFF, 75)", x.weigh(0xFFFFF, 75), 1);
        check.due("the worth of all five", Games.worthOf(x, 31), 1);
        check.due("weigh(0xFFFFE, 75)", x.weigh(0xFFFFE, 75), 0);
        check.due("the worth of all five", Games.worthOf(x, 31), 0);
        check.due("weigh(0, 1)", x.weigh(0, 1), 0);
        check.due("weigh(8, 8)", x.weigh(8, 8), 16);
        check.due("weigh(8, 9)", x.weigh(8, 9), 0);
    }

    private static void looksAtTwentyBitsOnly(Check check) {
        CoalitionValues x = new CoalitionValues();
        check.due("weigh(-1, 75)", x.weigh(-1, 75), 1);
        check.due("weigh(-1, 60)", x.weigh(-1, 60), 6);
        check.due("weigh(0xFFF00000, 1)", x.weigh(0xFFF00000, 1), 0);
        check.due("weigh(0x7FF11111, 3)", x.weigh(0x7FF11111, 3), 16);
        check.due("weigh(MIN_VALUE, 1)", x.weigh(Integer.MIN_VALUE, 1), 0);
        check.due("weigh(MAX_VALUE, 75)", x.weigh(Integer.MAX_VALUE, 75), 1);
    }

    private static void refusesWrongQuotas(Check check) {
        int[] worths = Games.allDifferent();
        CoalitionValues x = Games.withWorths(worths);
        int[] badQuotas = {0, -1, 76, 77, 1000, Integer.MAX_VALUE, Integer.MIN_VALUE};
        for (int bad : badQuotas) {
            check.due("weigh(0xFFFFF, " + bad + ")", x.weigh(0xFFFFF, bad), CoalitionValues.BAD_WORTH);
        }
        Games.dueWorths(check, "after wrong quotas", x, worths);
    }
}
