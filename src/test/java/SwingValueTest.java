/** Promise 7: swingValue. */
public final class SwingValueTest {
    public static void main(String[] args) {
        Check check = new Check();
        oneWorthAtATime(check);
        examples(check);
        countsTheEmptyOneAndTheOtherFour(check);
        greatestAndLeast(check);
        answersMayEqualTheConstants(check);
        refusesPlayersOutside(check);
        check.end();
    }

    private static void oneWorthAtATime(Check check) {
        for (int s = 1; s < 32; s++) {
            CoalitionValues x = new CoalitionValues();
            x.worth(s, 5);
            for (int p = 0; p < 5; p++) {
                check.due("swingValue(" + p + ") with only the worth of " + s,
                        x.swingValue(p), (s & (1 << p)) != 0 ? 5 : -5);
            }
        }
    }

    private static void examples(Check check) {
        CoalitionValues x = new CoalitionValues();
        x.weigh(0x11111, 3);
        check.due("swingValue(4) of the majority game", x.swingValue(4), 6);
        CoalitionValues y = Games.withWorths(Games.additive(new int[] {1, -2, 30, 0, -100}));
        check.due("swingValue(0) of an additive game", y.swingValue(0), 16);
        check.due("swingValue(1) of an additive game", y.swingValue(1), -32);
        check.due("swingValue(4) of an additive game", y.swingValue(4), -1600);
    }

    /** "all 16 coalitions without the player": the empty one is the first of them, the four others the last. */
    private static void countsTheEmptyOneAndTheOtherFour(Check check) {
        for (int p = 0; p < 5; p++) {
            CoalitionValues first = new CoalitionValues();
            first.worth(1 << p, 9);
            check.due("swingValue(" + p + ") with a gain alone", first.swingValue(p), 9);
            CoalitionValues last = new CoalitionValues();
            last.worth(31 - (1 << p), 9);
            check.due("swingValue(" + p + ") with a loss to the others", last.swingValue(p), -9);
            last.worth(31, 9);
            check.due("swingValue(" + p + ") with neither", last.swingValue(p), 0);
        }
    }

    /** The greatest and the least that worths in -1000 to 1000 can give; the empty one has 0. */
    private static void greatestAndLeast(Check check) {
        for (int p = 0; p < 5; p++) {
            int[] worths = new int[32];
            int[] turned = new int[32];
            for (int s = 1; s < 32; s++) {
                worths[s] = (s >> p & 1) != 0 ? 1000 : -1000;
                turned[s] = -worths[s];
            }
            check.due("the greatest swingValue(" + p + ")", Games.withWorths(worths).swingValue(p), 31000);
            check.due("the least swingValue(" + p + ")", Games.withWorths(turned).swingValue(p), -31000);
        }
    }

    /** An answer that a good player has may equal a constant. */
    private static void answersMayEqualTheConstants(Check check) {
        for (int p = 0; p < 5; p++) {
            CoalitionValues x = new CoalitionValues();
            for (int answer = -4; answer < 0; answer++) {
                x.worth(31, answer);
                check.due("swingValue(" + p + ") equal to " + answer, x.swingValue(p), answer);
            }
        }
    }

    /** Terms: "A player not in 0 to 4 is BAD_PLAYER", and the call changes nothing. */
    private static void refusesPlayersOutside(Check check) {
        for (int bad : Games.BAD_PLAYERS) {
            Untouched.due(check, "swingValue(" + bad + ")", x -> x.swingValue(bad), CoalitionValues.BAD_PLAYER);
        }
    }
}
