import java.util.function.ToIntFunction;

/** One call on objects of a known state, which it must leave as it was: every worth and every amount. */
final class Untouched {
    private static final int[][] WORTHS = {Games.allDifferent(), Games.atTheEdges(), new int[32]};
    private static final int[][] AMOUNTS = {
        {11, -22, 33, -44, 55}, {10000, -10000, 9999, -9999, 10000}, new int[5]};

    private Untouched() {
    }

    /** The call's answer, a boolean counted 1 or 0, must be this one in every state, and nothing may change. */
    static void due(Check check, String name, ToIntFunction<CoalitionValues> call, int want) {
        for (int state = 0; state < WORTHS.length; state++) {
            check.due(name + " in state " + state, call.applyAsInt(inState(state)), want);
        }
        due(check, name, call);
    }

    /** Whatever the call answers, nothing may change. */
    static void due(Check check, String name, ToIntFunction<CoalitionValues> call) {
        for (int state = 0; state < WORTHS.length; state++) {
            String where = "after " + name + " in state " + state;
            CoalitionValues x = inState(state);
            call.applyAsInt(x);
            check.due(where + ": the worth of nobody", Games.worthOfTheEmptyOne(x, WORTHS[state]), 0);
            Games.dueWorths(check, where, x, WORTHS[state]);
            for (int p = 0; p < 5; p++) {
                CoalitionValues y = inState(state);
                call.applyAsInt(y);
                check.due(where + ": the amount of player " + p, Games.amountOf(y, p), AMOUNTS[state][p]);
            }
        }
    }

    private static CoalitionValues inState(int state) {
        CoalitionValues x = Games.withWorths(WORTHS[state]);
        Games.payAll(x, AMOUNTS[state]);
        return x;
    }
}
