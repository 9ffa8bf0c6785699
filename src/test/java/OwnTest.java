/** Promise 8: own. */
public final class OwnTest {
    public static void main(String[] args) {
        Check check = new Check();
        partsAddUpToWorths(check, Games.allDifferent());
        partsAddUpToWorths(check, Games.squares());
        partsAddUpToWorths(check, Games.bySize(-1000, 1000, -1000, 1000, -1000));
        examples(check);
        refusesWrongCoalitions(check);
        check.end();
    }

    private static void partsAddUpToWorths(Check check, int[] worths) {
        CoalitionValues x = Games.withWorths(worths);
        int[] owns = new int[32];
        for (int s = 1; s < 32; s++) {
            owns[s] = x.own(s);
        }
        for (int s = 1; s < 32; s++) {
            int sum = 0;
            for (int t = 1; t < 32; t++) {
                if ((t & ~s) == 0) {
                    sum += owns[t];
                }
            }
            check.due("the sum of the own parts within " + s, sum, worths[s]);
        }
    }

    private static void examples(Check check) {
        CoalitionValues x = new CoalitionValues();
        x.worth(1, 10);
        x.worth(2, 20);
        x.worth(3, 45);
        check.due("own(1)", x.own(1), 10);
        check.due("own(3)", x.own(3), 15);
        check.due("own(4)", x.own(4), 0);
        check.due("own(7)", x.own(7), -15);
        CoalitionValues y = Games.withWorths(Games.bySize(-1000, 1000, -1000, 1000, -1000));
        check.due("own(31) at its edge", y.own(31), -31000);
        CoalitionValues z = new CoalitionValues();
        z.worth(16, -1);
        check.due("own(16) equal to BAD_COALITION", z.own(16), -1);
        check.due("own(17)", z.own(17), 1);
    }

    private static void refusesWrongCoalitions(Check check) {
        CoalitionValues x = Games.withWorths(Games.allDifferent());
        for (int bad : Games.BAD_COALITIONS) {
            check.due("own(" + bad + ")", x.own(bad), CoalitionValues.BAD_COALITION);
        }
    }
}
