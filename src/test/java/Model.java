/** The document's words once more, by other ways than the program's, to compare with. */
final class Model {
    final int[] worths = new int[32];
    final int[] amounts = new int[5];

    int worth(int coalition, int worth) {
        if (coalition < 1 || coalition > 31) {
            return -1;
        }
        if (Math.abs((long) worth) > 1000) {
            return -2;
        }
        int old = worths[coalition];
        worths[coalition] = worth;
        return old;
    }

    int pay(int player, int amount) {
        if (player < 0 || player > 4) {
            return -3;
        }
        if (Math.abs((long) amount) > 10000) {
            return -2;
        }
        amounts[player] = amount;
        return 0;
    }

    int weigh(int weights, int quota) {
        if (quota < 1 || quota > 75) {
            return -2;
        }
        int[] sums = new int[32];
        int winning = 0;
        for (int s = 1; s < 32; s++) {
            int last = 31 - Integer.numberOfLeadingZeros(s);
            sums[s] = sums[s - (1 << last)] + (weights >> (4 * last) & 15);
            worths[s] = sums[s] >= quota ? 1 : 0;
            winning += worths[s];
        }
        return winning;
    }

    int exchange(int a, int b) {
        if (a < 0 || a > 4 || b < 0 || b > 4) {
            return -3;
        }
        int[] before = worths.clone();
        for (int s = 1; s < 32; s++) {
            int image = 0;
            for (int p = 0; p < 5; p++) {
                if ((s & (1 << p)) != 0) {
                    image |= 1 << (p == a ? b : p == b ? a : p);
                }
            }
            worths[image] = before[s];
        }
        return 0;
    }

    int orderValue(int player) {
        if (player < 0 || player > 4) {
            return -3;
        }
        return sumOverOrders(player, 0);
    }

    /** Adds up the player's margins over every way in which the others not yet come may come. */
    private int sumOverOrders(int player, int before) {
        if (before == 31) {
            return 0;
        }
        int sum = 0;
        int came = Integer.bitCount(before);
        int waysToGoOn = factorial(4 - came);
        for (int next = 0; next < 5; next++) {
            if ((before & (1 << next)) != 0) {
                continue;
            }
            int after = before | 1 << next;
            if (next == player) {
                sum += waysToGoOn * (worths[after] - worths[before]);
            } else {
                sum += sumOverOrders(player, after);
            }
        }
        return sum;
    }

    private static int factorial(int n) {
        return n <= 1 ? 1 : n * factorial(n - 1);
    }

    int swingValue(int player) {
        if (player < 0 || player > 4) {
            return -3;
        }
        int sum = 0;
        for (int s = 0; s < 32; s++) {
            sum += (s & (1 << player)) != 0 ? worths[s] : -worths[s];
        }
        return sum;
    }

    int own(int coalition) {
        if (coalition < 1 || coalition > 31) {
            return -1;
        }
        int[] owns = new int[32];
        for (int s = 1; s < 32; s++) {
            owns[s] = worths[s];
            for (int t = (s - 1) & s; t > 0; t = (t - 1) & s) {
                owns[s] -= owns[t];
            }
        }
        return owns[coalition];
    }

    int complaint() {
        int greatest = Integer.MIN_VALUE;
        for (int s = 1; s <= 30; s++) {
            greatest = Math.max(greatest, worths[s] - Games.shareOf(s, amounts));
        }
        return greatest;
    }

    boolean inCore() {
        return Games.shareOf(31, amounts) == worths[31] && complaint() <= 0;
    }

    /** A game is convex just when any two players bring together at least what they bring singly, anywhere. */
    boolean convex() {
        for (int i = 0; i < 5; i++) {
            for (int j = 0; j < i; j++) {
                int both = 1 << i | 1 << j;
                for (int s = 0; s < 32; s++) {
                    if ((s & both) == 0
                            && worths[s | both] + worths[s] < worths[s | 1 << i] + worths[s | 1 << j]) {
                        return false;
                    }
                }
            }
        }
        return true;
    }

    boolean superadditive() {
        for (int union = 1; union < 32; union++) {
            for (int t = union; t > 0; t = (t - 1) & union) {
                if (worths[union] < worths[t] + worths[union - t]) {
                    return false;
                }
            }
        }
        return true;
    }

    /** Two players are alike just when an exchange of them changes no worth. */
    boolean alike(int a, int b) {
        if (a < 0 || a > 4 || b < 0 || b > 4) {
            return false;
        }
        Model other = new Model();
        System.arraycopy(worths, 0, other.worths, 0, 32);
        other.exchange(a, b);
        return java.util.Arrays.equals(worths, other.worths);
    }

    /** Tries every way to send the five players to five rooms. */
    int bestSplit() {
        int best = Integer.MIN_VALUE;
        for (int way = 0; way < 3125; way++) {
            int[] rooms = new int[5];
            int rest = way;
            for (int p = 0; p < 5; p++) {
                rooms[rest % 5] |= 1 << p;
                rest /= 5;
            }
            int total = 0;
            for (int room : rooms) {
                total += worths[room];
            }
            best = Math.max(best, total);
        }
        return best;
    }
}
