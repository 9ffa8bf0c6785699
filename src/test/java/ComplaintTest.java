/** Promise 9: complaint. */
public final class ComplaintTest {
    public static void main(String[] args) {
        Check check = new Check();
        everyCoalitionCounts(check);
        allFiveDoNotCount(check);
        theEmptyOneDoesNotCount(check);
        countsTheLeastAndTheGreatest(check);
        greatestAndLeast(check);
        check.end();
    }

    private static void everyCoalitionCounts(Check check) {
        int[] amounts = {7, -3, 12, 0, -9};
        for (int s = 1; s <= 30; s++) {
            CoalitionValues x = new CoalitionValues();
            Games.payAll(x, amounts);
            x.worth(s, 500);
            check.due("complaint() with 500 for " + s, x.complaint(), 500 - Games.shareOf(s, amounts));
        }
    }

    /** "over all [...] coalitions other than all five": however much the five would complain, it counts nothing. */
    private static void allFiveDoNotCount(Check check) {
        CoalitionValues x = new CoalitionValues();
        x.worth(31, 1000);
        check.due("complaint() with 1000 for all", x.complaint(), 0);
        Games.payAll(x, new int[] {-4, -5, -6, -7, -8});
        check.due("complaint() when all pay", x.complaint(), 26);
        x.worth(31, -1000);
        check.due("complaint() with -1000 for all", x.complaint(), 26);
    }

    /** "over all non-empty coalitions": the empty one's 0 is no answer where all the others have less. */
    private static void theEmptyOneDoesNotCount(Check check) {
        CoalitionValues x = new CoalitionValues();
        Games.payAll(x, new int[] {4, 5, 6, 7, 8});
        check.due("complaint() when all are paid", x.complaint(), -4);
        Games.payAll(x, new int[] {1, 1, 1, 1, 1});
        check.due("complaint() when all are paid 1", x.complaint(), -1);
        CoalitionValues y = Games.withWorths(Games.bySize(-1, -1, -1, -1, -1));
        check.due("complaint() when all are worth -1", y.complaint(), -1);
    }

    /** The least and the greatest coalition that count, 1 and 30, against all others between. */
    private static void countsTheLeastAndTheGreatest(Check check) {
        int[] edges = {1, 2, 16, 29, 30};
        for (int s : edges) {
            int[] worths = Games.bySize(-1000, -1000, -1000, -1000, 1000);
            worths[s] = -999;
            check.due("complaint() with -999 for " + s + " alone", Games.withWorths(worths).complaint(), -999);
        }
    }

    /** The greatest and the least that worths and amounts in their ranges can give. */
    private static void greatestAndLeast(Check check) {
        CoalitionValues x = Games.withWorths(Games.bySize(1000, 1000, 1000, 1000, 1000));
        Games.payAll(x, new int[] {-10000, -10000, -10000, -10000, -10000});
        check.due("the greatest complaint()", x.complaint(), 41000);
        CoalitionValues y = Games.withWorths(Games.bySize(-1000, -1000, -1000, -1000, -1000));
        Games.payAll(y, new int[] {10000, 10000, 10000, 10000, 10000});
        check.due("the least complaint()", y.complaint(), -11000);
        y.worth(31, 1000);
        check.due("the least complaint() with most for all five", y.complaint(), -11000);
    }
}
