/** Promise 9: complaint. */
public final class ComplaintTest {
    public static void main(String[] args) {
        Check check = new Check();
        everyCoalitionCounts(check);
        theFiveAndTheEmptyOneDoNot(check);
        takesTheEdges(check);
        check.end();
    }

    private static void everyCoalitionCounts(Check check) {
        int[] amounts = {7, -3, 12, 0, -9};
        for (int s = 1; s <= 30; s++) {
            CoalitionValues x = new CoalitionValues();
            Games.payAll(x, amounts);
            x.worth(s, 500);
            check.due("complaint() with 500 for " + s, x.complaint(), 500 - Games.shareOf(s, amounts));
        }
    }

    private static void theFiveAndTheEmptyOneDoNot(Check check) {
        CoalitionValues x = new CoalitionValues();
        x.worth(31, 1000);
        check.due("complaint() with 1000 for all", x.complaint(), 0);
        Games.payAll(x, new int[] {4, 5, 6, 7, 8});
        check.due("complaint() when all are paid", x.complaint(), -4);
        Games.payAll(x, new int[] {-4, -5, -6, -7, -8});
        check.due("complaint() when all pay", x.complaint(), 26);
    }

    private static void takesTheEdges(Check check) {
        CoalitionValues x = Games.withWorths(Games.bySize(1000, 1000, 1000, 1000, 1000));
        Games.payAll(x, new int[] {-10000, -10000, -10000, -10000, -10000});
        check.due("the greatest complaint()", x.complaint(), 41000);
        CoalitionValues y = Games.withWorths(Games.bySize(-1000, -1000, -1000, -1000, -1000));
        Games.payAll(y, new int[] {10000, 10000, 10000, 10000, 10000});
        check.due("the least complaint()", y.complaint(), -11000);
    }
}
