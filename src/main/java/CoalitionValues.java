public final class CoalitionValues {
    public static final int BAD_COALITION = -1;
    public static final int BAD_WORTH = -2;
    public static final int BAD_PLAYER = -3;

    private static final int PLAYERS = 5;
    private static final int COALITIONS = 32;
    private static final int EVERYONE = 31;
    private static final int MOST_WORTH = 1000;
    private static final int MOST_AMOUNT = 10000;
    private static final int MOST_QUOTA = 75;

    // Indexed by the coalition's mask; place 0, the empty coalition,
    // is never given another worth than 0.
    private final int[] worths = new int[COALITIONS];
    private final int[] amounts = new int[PLAYERS];
    // Working room of bestSplit alone, since a method may not make an array;
    // it carries nothing from call to call.
    private final int[] bestTotals = new int[COALITIONS];

    public CoalitionValues() {
    }

    public int worth(int coalition, int worth) {
        if (!isNonEmptyCoalition(coalition)) {
            return BAD_COALITION;
        }
        if (worth < -MOST_WORTH || worth > MOST_WORTH) {
            return BAD_WORTH;
        }
        int old = worths[coalition];
        worths[coalition] = worth;
        return old;
    }

    public int pay(int player, int amount) {
        if (!isPlayer(player)) {
            return BAD_PLAYER;
        }
        if (amount < -MOST_AMOUNT || amount > MOST_AMOUNT) {
            return BAD_WORTH;
        }
        amounts[player] = amount;
        return 0;
    }

    public int weigh(int weights, int quota) {
        if (quota < 1 || quota > MOST_QUOTA) {
            return BAD_WORTH;
        }
        int winning = 0;
        for (int coalition = 1; coalition < COALITIONS; coalition++) {
            int worthNow = weightOf(coalition, weights) >= quota ? 1 : 0;
            worths[coalition] = worthNow;
            winning += worthNow;
        }
        return winning;
    }

    public int exchange(int a, int b) {
        if (!isPlayer(a) || !isPlayer(b)) {
            return BAD_PLAYER;
        }
        // A coalition with both players or neither is its own image,
        // so only those with a and without b meet a partner.
        for (int coalition = 1; coalition < COALITIONS; coalition++) {
            if (has(coalition, a) && !has(coalition, b)) {
                int image = coalition ^ (1 << a) ^ (1 << b);
                int kept = worths[coalition];
                worths[coalition] = worths[image];
                worths[image] = kept;
            }
        }
        return 0;
    }

    public int orderValue(int player) {
        if (!isPlayer(player)) {
            return BAD_PLAYER;
        }
        int sum = 0;
        for (int before = 0; before < COALITIONS; before++) {
            if (!has(before, player)) {
                sum += ordersAfter(before) * margin(player, before);
            }
        }
        return sum;
    }

    public int swingValue(int player) {
        if (!isPlayer(player)) {
            return BAD_PLAYER;
        }
        int sum = 0;
        for (int coalition = 0; coalition < COALITIONS; coalition++) {
            if (!has(coalition, player)) {
                sum += margin(player, coalition);
            }
        }
        return sum;
    }

    public int own(int coalition) {
        if (!isNonEmptyCoalition(coalition)) {
            return BAD_COALITION;
        }
        // Turning "worth is the sum of own parts" round gives a sum of worths
        // whose sign changes with each player left out.
        int sum = 0;
        for (int part = 1; part < COALITIONS; part++) {
            if ((part & coalition) == part) {
                boolean evenlyManyLeftOut = (size(coalition ^ part) & 1) == 0;
                sum += evenlyManyLeftOut ? worths[part] : -worths[part];
            }
        }
        return sum;
    }

    public int complaint() {
        int greatest = excess(1);
        for (int coalition = 2; coalition < EVERYONE; coalition++) {
            int here = excess(coalition);
            if (here > greatest) {
                greatest = here;
            }
        }
        return greatest;
    }

    public boolean inCore() {
        if (excess(EVERYONE) != 0) {
            return false;
        }
        for (int coalition = 1; coalition < EVERYONE; coalition++) {
            if (excess(coalition) > 0) {
                return false;
            }
        }
        return true;
    }

    public boolean convex() {
        for (int s = 0; s < COALITIONS; s++) {
            for (int t = 0; t < COALITIONS; t++) {
                if (worths[s | t] + worths[s & t] < worths[s] + worths[t]) {
                    return false;
                }
            }
        }
        return true;
    }

    public boolean superadditive() {
        for (int s = 0; s < COALITIONS; s++) {
            for (int t = 0; t < COALITIONS; t++) {
                if ((s & t) == 0 && worths[s | t] < worths[s] + worths[t]) {
                    return false;
                }
            }
        }
        return true;
    }

    public boolean alike(int a, int b) {
        if (!isPlayer(a) || !isPlayer(b)) {
            return false;
        }
        for (int coalition = 0; coalition < COALITIONS; coalition++) {
            boolean hasNeither = !has(coalition, a) && !has(coalition, b);
            if (hasNeither && margin(a, coalition) != margin(b, coalition)) {
                return false;
            }
        }
        return true;
    }

    public int bestSplit() {
        // Every part of a coalition has a smaller mask,
        // so its best total stands before it is asked for.
        for (int coalition = 1; coalition < COALITIONS; coalition++) {
            bestTotals[coalition] = bestTotalFromParts(coalition);
        }
        return bestTotals[EVERYONE];
    }

    private int bestTotalFromParts(int coalition) {
        int best = worths[coalition];
        for (int part = 1; part < coalition; part++) {
            if ((part & coalition) == part) {
                int total = bestTotals[part] + bestTotals[coalition ^ part];
                if (total > best) {
                    best = total;
                }
            }
        }
        return best;
    }

    private static boolean isPlayer(int player) {
        return player >= 0 && player < PLAYERS;
    }

    private static boolean isNonEmptyCoalition(int coalition) {
        return coalition >= 1 && coalition < COALITIONS;
    }

    private static boolean has(int coalition, int player) {
        return ((coalition >> player) & 1) == 1;
    }

    private static int size(int coalition) {
        int count = 0;
        for (int player = 0; player < PLAYERS; player++) {
            if (has(coalition, player)) {
                count++;
            }
        }
        return count;
    }

    private static int weightOf(int coalition, int weights) {
        int sum = 0;
        for (int player = 0; player < PLAYERS; player++) {
            if (has(coalition, player)) {
                sum += (weights >> (4 * player)) & 15;
            }
        }
        return sum;
    }

    // How many of the 120 orders have just these players before a given other one:
    // the orders of those before times the orders of those who come after.
    private static int ordersAfter(int before) {
        int count = size(before);
        switch (count) {
            case 0:
            case 4:
                return 24;
            case 1:
            case 3:
                return 6;
            default:
                return 4;
        }
    }

    private int margin(int player, int coalition) {
        return worths[coalition | (1 << player)] - worths[coalition];
    }

    private int share(int coalition) {
        int sum = 0;
        for (int player = 0; player < PLAYERS; player++) {
            if (has(coalition, player)) {
                sum += amounts[player];
            }
        }
        return sum;
    }

    private int excess(int coalition) {
        return worths[coalition] - share(coalition);
    }
}
