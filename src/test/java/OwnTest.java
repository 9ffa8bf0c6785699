/** Promise 8: own. */
public final class OwnTest {
    public static void main(String[] args) {
        Check check = new Check();
        partsAddUpToWorths(check, Games.allDifferent());
        partsAddUpToWorths(check, Games.squares());
        partsAddUpToWorths(check, Games.bySize(-1000, 1000, -1000, 1000, -1000));
        partsAddUpToWorths(check, Games.atTheEdges());
        examples(check);
        aSinglePlayerHasItsWorth(check);
        othersDoNotCount(check);
        greatestAndLeast(check);
        answersMayEqualTheConstants(check);
        refusesCoalitionsOutside(check);
        check.end();
    }

    private static void partsAddUpToWorths(Check check, int[] worths) {
        CoalitionValues x = Games.withWorths(worths);
        int[] owns = new int[32];
        for (int s = 1; s < 32; s++) {
            owns[s] = x.own(s);
        }
        for (int s = 1; s < 32; s++) {
            int sum = 0;
            for (int t = 1; t < 32; t++) {
                if ((t & ~s) == 0) {
                    sum += owns[t];
                }
            }
            check.due("the sum of the own parts within " + s, sum, worths[s]);
        }
    }

    private static void examples(Check check) {
        CoalitionValues x = new CoalitionValues();
        x.worth(1, 10);
        x.worth(2, 20);
        x.worth(3, 45);
        check.due("own(1)", x.own(1), 10);
        check.due("own(3)", x.own(3), 15);
        check.due("own(4)", x.own(4), 0);
        check.due("own(7)", x.own(7), -15);
    }

    /** "over all its non-empty subsets T, itself counted in": a single player has no other, and keeps its worth. */
    private static void aSinglePlayerHasItsWorth(Check check) {
        int[] worths = Games.allDifferent();
        CoalitionValues x = Games.withWorths(worths);
        for (int p = 0; p < 5; p++) {
            check.due("own(" + (1 << p) + ")", x.own(1 << p), worths[1 << p]);
            x.worth(1 << p, 1000);
            check.due("own(" + (1 << p) + ") at most", x.own(1 << p), 1000);
            x.worth(1 << p, -1000);
            check.due("own(" + (1 << p) + ") at least", x.own(1 << p), -1000);
        }
    }

    /** Only subsets count: what coalitions with another player have changes nothing. */
    private static void othersDoNotCount(Check check) {
        for (int s = 1; s < 32; s++) {
            CoalitionValues x = Games.withWorths(Games.squares());
            int before = x.own(s);
            for (int t = 1; t < 32; t++) {
                if ((t & ~s) != 0) {
                    x.worth(t, t % 2 == 0 ? 1000 : -1000);
                }
            }
            check.due("own(" + s + ") after the others changed", x.own(s), before);
        }
    }

    /** The greatest and the least that worths in -1000 to 1000 can give, from a single player to all five. */
    private static void greatestAndLeast(Check check) {
        for (int s = 1; s < 32; s++) {
            int[] worths = new int[32];
            int[] turned = new int[32];
            int due = 0;
            for (int t = 1; t < 32; t++) {
                worths[t] = Integer.bitCount(s & ~t) % 2 == 0 ? 1000 : -1000;
                turned[t] = -worths[t];
                due += (t & ~s) == 0 ? 1000 : 0;
            }
            check.due("the greatest own(" + s + ")", Games.withWorths(worths).own(s), due);
            check.due("the least own(" + s + ")", Games.withWorths(turned).own(s), -due);
        }
        CoalitionValues x = Games.withWorths(Games.bySize(-1000, 1000, -1000, 1000, -1000));
        check.due("the least own(31) as a number", x.own(31), -31000);
    }

    /** An answer that a good coalition has may equal a constant. */
    private static void answersMayEqualTheConstants(Check check) {
        for (int s = 1; s < 32; s++) {
            CoalitionValues x = new CoalitionValues();
            for (int answer = -4; answer < 0; answer++) {
                x.worth(s, answer);
                check.due("own(" + s + ") equal to " + answer, x.own(s), answer);
            }
        }
    }

    /** "coalition not in 1 to 31: BAD_COALITION", and the call changes nothing. */
    private static void refusesCoalitionsOutside(Check check) {
        for (int bad : Games.BAD_COALITIONS) {
            Untouched.due(check, "own(" + bad + ")", x -> x.own(bad), CoalitionValues.BAD_COALITION);
        }
    }
}
