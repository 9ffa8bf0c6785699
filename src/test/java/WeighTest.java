/** Promise 4: weigh. */
public final class WeighTest {
    public static void main(String[] args) {
        Check check = new Check();
        givesEveryWorth(check);
        paymentStays(check);
        justTheQuotaIsEnough(check);
        takesTheLeastAndTheGreatestQuota(check);
        countsFromNoneToAll(check);
        takesTheLeastAndTheGreatestWeight(check);
        looksAtTwentyBitsOnly(check);
        leavesTheEmptyOneAtNothing(check);
        forgetsTheEarlierWorths(check);
        refusesQuotasOutside(check);
        check.end();
    }

    private static void givesEveryWorth(Check check) {
        int[] weightsTried = {0x54321, 0x11111, 0xF0001, 0x0000F, 0xF0000, 0x9A3C7, 0};
        for (int weights : weightsTried) {
            for (int quota = 1; quota <= 75; quota++) {
                Model model = new Model();
                CoalitionValues x = Games.withWorths(Games.allDifferent());
                String call = "weigh(" + weights + ", " + quota + ")";
                check.due(call, x.weigh(weights, quota), model.weigh(weights, quota));
                Games.dueWorths(check, call, x, model.worths);
            }
        }
    }

    private static void paymentStays(Check check) {
        CoalitionValues x = new CoalitionValues();
        Games.payAll(x, new int[] {9, 8, 7, -6, -5});
        x.weigh(0x11111, 3);
        Games.dueAmounts(check, "after weigh", x, new int[] {9, 8, 7, -6, -5});
    }

    /** "at least the quota": each coalition has 1 at a quota equal to its weight, and 0 at one more. */
    private static void justTheQuotaIsEnough(Check check) {
        int[] each = {1, 2, 4, 8, 15};
        for (int s = 1; s < 32; s++) {
            int weight = Games.shareOf(s, each);
            CoalitionValues x = new CoalitionValues();
            x.weigh(0xF8421, weight);
            check.due("the worth of " + s + " at the quota " + weight, Games.worthOf(x, s), 1);
            x.weigh(0xF8421, weight + 1);
            check.due("the worth of " + s + " at the quota " + (weight + 1), Games.worthOf(x, s), 0);
        }
    }

    /** Within "1 to 75" the least quota and the greatest are taken. */
    private static void takesTheLeastAndTheGreatestQuota(Check check) {
        CoalitionValues x = new CoalitionValues();
        check.due("weigh(0x10000, 1)", x.weigh(0x10000, 1), 16);
        check.due("the worth of player 4 alone", Games.worthOf(x, 16), 1);
        check.due("the worth of the others", Games.worthOf(x, 15), 0);
        check.due("weigh(0xFFFFF, 75)", x.weigh(0xFFFFF, 75), 1);
        check.due("the worth of all five", Games.worthOf(x, 31), 1);
        check.due("weigh(0xFFFFF, 74)", x.weigh(0xFFFFF, 74), 1);
        check.due("weigh(0xFFFFE, 75)", x.weigh(0xFFFFE, 75), 0);
        check.due("the worth of all five", Games.worthOf(x, 31), 0);
        check.due("weigh(0xEFFFF, 75)", x.weigh(0xEFFFF, 75), 0);
        check.due("weigh(0xEFFFF, 74)", x.weigh(0xEFFFF, 74), 1);
    }

    /** "answers how many coalitions have worth 1": from none to all 31, the empty one never among them. */
    private static void countsFromNoneToAll(Check check) {
        CoalitionValues x = new CoalitionValues();
        check.due("weigh(0x11111, 1)", x.weigh(0x11111, 1), 31);
        check.due("weigh(0x11111, 2)", x.weigh(0x11111, 2), 26);
        check.due("weigh(0x11111, 3)", x.weigh(0x11111, 3), 16);
        check.due("weigh(0x11111, 4)", x.weigh(0x11111, 4), 6);
        check.due("weigh(0x11111, 5)", x.weigh(0x11111, 5), 1);
        check.due("weigh(0x11111, 6)", x.weigh(0x11111, 6), 0);
        check.due("weigh(0, 1)", x.weigh(0, 1), 0);
        check.due("weigh(0, 75)", x.weigh(0, 75), 0);
        check.due("weigh(0xFFFFF, 1)", x.weigh(0xFFFFF, 1), 31);
        check.due("weigh(0xFFFFF, 15)", x.weigh(0xFFFFF, 15), 31);
        check.due("weigh(0xFFFFF, 16)", x.weigh(0xFFFFF, 16), 26);
    }

    /** "player p's weight is (weights >> (4 * p)) & 15": from 0 to 15, for each player in its own place. */
    private static void takesTheLeastAndTheGreatestWeight(Check check) {
        for (int p = 0; p < 5; p++) {
            for (int weight = 0; weight <= 15; weight++) {
                int weights = weight << (4 * p);
                CoalitionValues x = new CoalitionValues();
                if (weight > 0) {
                    check.due("weigh(" + weights + ", " + weight + ")", x.weigh(weights, weight), 16);
                    check.due("the worth of player " + p + " alone", Games.worthOf(x, 1 << p), 1);
                    check.due("the worth of the others", Games.worthOf(x, 31 - (1 << p)), 0);
                }
                check.due("weigh(" + weights + ", " + (weight + 1) + ")", x.weigh(weights, weight + 1), 0);
            }
        }
    }

    /** Weights are any int: what stands above the five players' bits counts nothing, nor does the sign. */
    private static void looksAtTwentyBitsOnly(Check check) {
        CoalitionValues x = new CoalitionValues();
        check.due("weigh(-1, 75)", x.weigh(-1, 75), 1);
        check.due("weigh(-1, 60)", x.weigh(-1, 60), 6);
        check.due("weigh(-1, 1)", x.weigh(-1, 1), 31);
        check.due("weigh(0x100000, 1)", x.weigh(0x100000, 1), 0);
        check.due("weigh(0xFFF00000, 1)", x.weigh(0xFFF00000, 1), 0);
        check.due("weigh(0x7FF11111, 3)", x.weigh(0x7FF11111, 3), 16);
        check.due("weigh(0x80011111, 3)", x.weigh(0x80011111, 3), 16);
        check.due("weigh(MIN_VALUE, 1)", x.weigh(Integer.MIN_VALUE, 1), 0);
        check.due("weigh(MAX_VALUE, 75)", x.weigh(Integer.MAX_VALUE, 75), 1);
        check.due("weigh(MAX_VALUE, 1)", x.weigh(Integer.MAX_VALUE, 1), 31);
    }

    /** Terms: "the worth of the empty one is always 0", at the least quota too. */
    private static void leavesTheEmptyOneAtNothing(Check check) {
        int[] weightsTried = {0, 0x11111, 0xFFFFF, -1, Integer.MIN_VALUE, Integer.MAX_VALUE};
        int[] quotas = {1, 2, 74, 75};
        for (int weights : weightsTried) {
            for (int quota : quotas) {
                Model model = new Model();
                model.weigh(weights, quota);
                CoalitionValues x = new CoalitionValues();
                x.weigh(weights, quota);
                check.due("the worth of nobody after weigh(" + weights + ", " + quota + ")",
                        Games.worthOfTheEmptyOne(x, model.worths), 0);
            }
        }
    }

    /** "Every coalition gets the worth 1 [...] else 0", whatever it had: the greatest, the least, or one that won. */
    private static void forgetsTheEarlierWorths(Check check) {
        CoalitionValues x = Games.withWorths(Games.atTheEdges());
        check.due("weigh(0, 75)", x.weigh(0, 75), 0);
        Games.dueWorths(check, "after weigh(0, 75)", x, new int[32]);
        CoalitionValues y = Games.withWorths(Games.atTheEdges());
        check.due("weigh(-1, 1)", y.weigh(-1, 1), 31);
        Games.dueWorths(check, "after weigh(-1, 1)", y, Games.bySize(1, 1, 1, 1, 1));
        check.due("weigh(-1, 75)", y.weigh(-1, 75), 1);
        Games.dueWorths(check, "after weigh(-1, 75)", y, Games.bySize(0, 0, 0, 0, 1));
    }

    /** "quota not in 1 to 75: BAD_WORTH, nothing changes", whatever the weights. */
    private static void refusesQuotasOutside(Check check) {
        int[] weightsTried = {0, 0x11111, 0xFFFFF, -1, Integer.MIN_VALUE, Integer.MAX_VALUE};
        for (int bad : Games.BAD_QUOTAS) {
            for (int weights : weightsTried) {
                Untouched.due(check, "weigh(" + weights + ", " + bad + ")",
                        x -> x.weigh(weights, bad), CoalitionValues.BAD_WORTH);
            }
        }
    }
}
