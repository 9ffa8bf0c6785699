/** Promise 7: swingValue. */
public final class SwingValueTest {
    public static void main(String[] args) {
        Check check = new Check();
        oneWorthAtATime(check);
        examples(check);
        refusesWrongPlayers(check);
        check.end();
    }

    private static void oneWorthAtATime(Check check) {
        for (int s = 1; s < 32; s++) {
            CoalitionValues x = new CoalitionValues();
            x.worth(s, 5);
            for (int p = 0; p < 5; p++) {
                check.due("swingValue(" + p + ") with only the worth of " + s,
                        x.swingValue(p), (s & (1 << p)) != 0 ? 5 : -5);
            }
        }
    }

    private static void examples(Check check) {
        CoalitionValues x = new CoalitionValues();
        x.weigh(0x11111, 3);
        check.due("swingValue(4) of the majority game", x.swingValue(4), 6);
        CoalitionValues y = Games.withWorths(Games.additive(new int[] {1, -2, 30, 0, -100}));
        check.due("swingValue(0) of an additive game", y.swingValue(0), 16);
        check.due("swingValue(1) of an additive game", y.swingValue(1), -32);
        check.due("swingValue(4) of an additive game", y.swingValue(4), -1600);
        CoalitionValues z = new CoalitionValues();
        z.worth(2, -3);
        check.due("swingValue(1) equal to BAD_PLAYER", z.swingValue(1), -3);
        int[] worths = new int[32];
        for (int s = 1; s < 32; s++) {
            worths[s] = (s & 1) != 0 ? 1000 : -1000;
        }
        check.due("swingValue(0) at its edge", Games.withWorths(worths).swingValue(0), 31000);
    }

    private static void refusesWrongPlayers(Check check) {
        CoalitionValues x = Games.withWorths(Games.allDifferent());
        for (int bad : Games.BAD_PLAYERS) {
            check.due("swingValue(" + bad + ")", x.swingValue(bad), CoalitionValues.BAD_PLAYER);
        }
    }
}
