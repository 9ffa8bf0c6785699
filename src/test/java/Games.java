/** Ways to set up an object and to read its state through its public face. */
final class Games {
    static final int[] BAD_PLAYERS = {-1, 5, 6, 31, 32, 37, -32, 1000, Integer.MIN_VALUE, Integer.MAX_VALUE};
    static final int[] BAD_COALITIONS = {0, -1, 32, 33, 63, -31, 1000, Integer.MIN_VALUE, Integer.MAX_VALUE};

    private Games() {
    }

    /** A new object with these worths; place 0 is passed over. 31 calls. */
    static CoalitionValues withWorths(int[] worths) {
        CoalitionValues x = new CoalitionValues();
        for (int s = 1; s < 32; s++) {
            x.worth(s, worths[s]);
        }
        return x;
    }

    static void payAll(CoalitionValues x, int[] amounts) {
        for (int p = 0; p < 5; p++) {
            x.pay(p, amounts[p]);
        }
    }

    /** Reads one worth and puts it back. 2 calls. */
    static int worthOf(CoalitionValues x, int coalition) {
        int found = x.worth(coalition, 0);
        x.worth(coalition, found);
        return found;
    }

    /** All worths must be these. 62 calls. */
    static void dueWorths(Check check, String where, CoalitionValues x, int[] worths) {
        for (int s = 1; s < 32; s++) {
            check.due(where + ": the worth of " + s, worthOf(x, s), worths[s]);
        }
    }

    /**
     * All amounts must be these, each from -100 to 100; the worths are lost. 41 calls.
     * One coalition of a single player has a worth so high that the greatest complaint is its own.
     */
    static void dueAmounts(Check check, String where, CoalitionValues x, int[] amounts) {
        for (int s = 1; s < 32; s++) {
            x.worth(s, -1000);
        }
        for (int p = 0; p < 5; p++) {
            x.worth(1 << p, 1000);
            check.due(where + ": the amount of player " + p, 1000 - x.complaint(), amounts[p]);
            x.worth(1 << p, -1000);
        }
    }

    /** Worths that all differ, so that a worth in the wrong place is seen. */
    static int[] allDifferent() {
        int[] worths = new int[32];
        for (int s = 1; s < 32; s++) {
            worths[s] = (s * 37) % 101 * 7 - 300;
        }
        return worths;
    }

    static int[] squares() {
        int[] worths = new int[32];
        for (int s = 1; s < 32; s++) {
            worths[s] = Integer.bitCount(s) * Integer.bitCount(s);
        }
        return worths;
    }

    /** The worth of a coalition is the sum of what each player alone brings. */
    static int[] additive(int[] each) {
        int[] worths = new int[32];
        for (int s = 1; s < 32; s++) {
            worths[s] = shareOf(s, each);
        }
        return worths;
    }

    static int shareOf(int coalition, int[] amounts) {
        int sum = 0;
        for (int p = 0; p < 5; p++) {
            if ((coalition & (1 << p)) != 0) {
                sum += amounts[p];
            }
        }
        return sum;
    }

    /** The same worth for all coalitions of a size. */
    static int[] bySize(int one, int two, int three, int four, int five) {
        int[] each = {0, one, two, three, four, five};
        int[] worths = new int[32];
        for (int s = 1; s < 32; s++) {
            worths[s] = each[Integer.bitCount(s)];
        }
        return worths;
    }
}
