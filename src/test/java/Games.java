/** Ways to set up an object and to read its state through its public face. */
final class Games {
    // Each begins with the two just outside, and ends with the least and the greatest int. Between them stand
    // numbers that would pass as good ones if they were cut to fewer bits, or shifted by.
    static final int[] BAD_PLAYERS = {-1, 5,
            6, 7, 8, 31, 32, 33, 36, -4, -5, -28, -31, -32, 64, 256, 260, 65536, 65540, 1 << 30,
            Integer.MIN_VALUE + 1, Integer.MAX_VALUE - 1, Integer.MIN_VALUE, Integer.MAX_VALUE};
    static final int[] BAD_COALITIONS = {0, 32,
            -1, 33, 63, 64, -31, -32, 256, 257, 256 + 31, 65536, 65537, 65536 + 31, 1 << 30,
            Integer.MIN_VALUE + 1, Integer.MAX_VALUE - 1, Integer.MIN_VALUE, Integer.MAX_VALUE};
    static final int[] BAD_WORTHS = {-1001, 1001,
            -1002, 1002, 2000, -2000, 10000, -10000, 65536, 65536 + 5, 65536 - 5, -65536, 1 << 24, 1 << 30,
            Integer.MIN_VALUE + 1, Integer.MAX_VALUE - 1, Integer.MIN_VALUE, Integer.MAX_VALUE};
    static final int[] BAD_AMOUNTS = {-10001, 10001,
            -10002, 10002, 20000, -20000, 65536, 65536 + 5, 65536 - 5, -65536, 1 << 24, 1 << 30,
            Integer.MIN_VALUE + 1, Integer.MAX_VALUE - 1, Integer.MIN_VALUE, Integer.MAX_VALUE};
    static final int[] BAD_QUOTAS = {0, 76,
            -1, 77, 100, 128, -75, -76, 256, 257, 256 + 75, 65536, 65537, 65536 + 75, 1 << 30,
            Integer.MIN_VALUE + 1, Integer.MAX_VALUE - 1, Integer.MIN_VALUE, Integer.MAX_VALUE};

    private Games() {
    }

    /** A new object with these worths; place 0 is passed over. 31 calls. */
    static CoalitionValues withWorths(int[] worths) {
        CoalitionValues x = new CoalitionValues();
        for (int s = 1; s < 32; s++) {
            x.worth(s, worths[s]);
        }
        return x;
    }

    static void payAll(CoalitionValues x, int[] amounts) {
        for (int p = 0; p < 5; p++) {
            x.pay(p, amounts[p]);
        }
    }

    /** Reads one worth and puts it back. 2 calls. */
    static int worthOf(CoalitionValues x, int coalition) {
        int found = x.worth(coalition, 0);
        x.worth(coalition, found);
        return found;
    }

    /** All worths must be these. 62 calls. */
    static void dueWorths(Check check, String where, CoalitionValues x, int[] worths) {
        for (int s = 1; s < 32; s++) {
            check.due(where + ": the worth of " + s, worthOf(x, s), worths[s]);
        }
    }

    /** What the empty coalition counts in the margins, when the other worths are these. 1 call. */
    static int worthOfTheEmptyOne(CoalitionValues x, int[] worths) {
        int without = 0;
        for (int s = 1; s < 32; s++) {
            without += (s & 1) != 0 ? worths[s] : -worths[s];
        }
        return without - x.swingValue(0);
    }

    /**
     * All amounts must be these, each from -100 to 100; the worths are lost. 41 calls.
     * One coalition of a single player has a worth so high that the greatest complaint is its own.
     */
    static void dueAmounts(Check check, String where, CoalitionValues x, int[] amounts) {
        for (int s = 1; s < 32; s++) {
            x.worth(s, -1000);
        }
        for (int p = 0; p < 5; p++) {
            x.worth(1 << p, 1000);
            check.due(where + ": the amount of player " + p, 1000 - x.complaint(), amounts[p]);
            x.worth(1 << p, -1000);
        }
    }

    /**
     * Any amount that may be; the worths and the other amounts are lost. 36 calls.
     * The others are paid so much that no coalition complains more than this player alone.
     */
    static int amountOf(CoalitionValues x, int player) {
        for (int s = 1; s < 32; s++) {
            x.worth(s, s == 1 << player ? 1000 : -1000);
        }
        for (int p = 0; p < 5; p++) {
            if (p != player) {
                x.pay(p, 10000);
            }
        }
        return 1000 - x.complaint();
    }

    /** Worths that all differ, so that a worth in the wrong place is seen. */
    static int[] allDifferent() {
        int[] worths = new int[32];
        for (int s = 1; s < 32; s++) {
            worths[s] = (s * 37) % 101 * 7 - 300;
        }
        return worths;
    }

    /** The least and the greatest worth, in a pattern that no exchange of two players keeps. */
    static int[] atTheEdges() {
        int[] worths = new int[32];
        for (int s = 1; s < 32; s++) {
            worths[s] = s * 5 % 11 < 6 ? 1000 : -1000;
        }
        return worths;
    }

    static int[] squares() {
        int[] worths = new int[32];
        for (int s = 1; s < 32; s++) {
            worths[s] = Integer.bitCount(s) * Integer.bitCount(s);
        }
        return worths;
    }

    /** The worth of a coalition is the sum of what each player alone brings. */
    static int[] additive(int[] each) {
        int[] worths = new int[32];
        for (int s = 1; s < 32; s++) {
            worths[s] = shareOf(s, each);
        }
        return worths;
    }

    static int shareOf(int coalition, int[] amounts) {
        int sum = 0;
        for (int p = 0; p < 5; p++) {
            if ((coalition & (1 << p)) != 0) {
                sum += amounts[p];
            }
        }
        return sum;
    }

    /** The same worth for all coalitions of a size. */
    static int[] bySize(int one, int two, int three, int four, int five) {
        int[] each = {0, one, two, three, four, five};
        int[] worths = new int[32];
        for (int s = 1; s < 32; s++) {
            worths[s] = each[Integer.bitCount(s)];
        }
        return worths;
    }
}
