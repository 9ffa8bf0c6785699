/** Long runs of mixed calls, up to the 512 that an object is good for, each answer compared with the model's. */
public final class LongRunsTest {
    private static final int RUNS = 400;
    private static final int CALLS = 512;

    private final Check check;
    private final String name;
    private final CoalitionValues x = new CoalitionValues();
    private final Model model = new Model();
    private long seed;

    private LongRunsTest(Check check, int run) {
        this.check = check;
        this.name = "run " + run;
        this.seed = run * 7919L + 17;
    }

    public static void main(String[] args) {
        Check check = new Check();
        for (int run = 0; run < RUNS; run++) {
            new LongRunsTest(check, run).run(run % 4);
        }
        check.end();
    }

    /** The kinds of game that the questions with a yes and a no are close to the border in. */
    private void run(int kind) {
        for (int s = 1; s < 32; s++) {
            int worth = kind == 0 ? between(-1000, 1000)
                    : kind == 1 ? Integer.bitCount(s) * Integer.bitCount(s)
                    : kind == 2 ? Integer.bitCount(s) * 3
                    : 0;
            dueWorth(s, worth);
        }
        if (kind == 1 || kind == 2) {
            for (int p = 0; p < 5; p++) {
                duePay(p, kind == 1 ? 5 : 3);
            }
        }
        for (int call = kind == 1 || kind == 2 ? 36 : 31; call < CALLS; call++) {
            if (between(0, 3) == 0) {
                change(kind);
            } else {
                ask();
            }
        }
    }

    private void change(int kind) {
        switch (between(0, 7)) {
            case 0:
            case 1:
            case 2: {
                int s = between(0, 32);
                int worth = kind == 0 ? between(-1010, 1010) : s > 0 && s < 32 ? model.worths[s] + between(-1, 1) : 0;
                dueWorth(s, worth);
                break;
            }
            case 3:
            case 4: {
                int p = between(-1, 5);
                int amount = kind == 0 ? between(-10050, 10050)
                        : p >= 0 && p < 5 ? model.amounts[p] + between(-1, 1)
                        : 0;
                duePay(p, amount);
                break;
            }
            case 5: {
                if (kind == 3) {
                    int weights = between(0, (1 << 20) - 1);
                    int quota = between(0, 76);
                    due("weigh(" + weights + ", " + quota + ")", x.weigh(weights, quota), model.weigh(weights, quota));
                    break;
                }
                due("weigh(1, 0)", x.weigh(1, 0), -2);
                break;
            }
            default: {
                int a = between(-1, 5);
                int b = between(-1, 5);
                due("exchange(" + a + ", " + b + ")", x.exchange(a, b), model.exchange(a, b));
            }
        }
    }

    private void ask() {
        int player = between(-1, 5);
        int other = between(-1, 5);
        int coalition = between(0, 32);
        switch (between(0, 8)) {
            case 0: due("orderValue(" + player + ")", x.orderValue(player), model.orderValue(player)); break;
            case 1: due("swingValue(" + player + ")", x.swingValue(player), model.swingValue(player)); break;
            case 2: due("own(" + coalition + ")", x.own(coalition), model.own(coalition)); break;
            case 3: due("complaint()", x.complaint(), model.complaint()); break;
            case 4: check.due(name + " inCore()", x.inCore(), model.inCore()); break;
            case 5: check.due(name + " convex()", x.convex(), model.convex()); break;
            case 6: check.due(name + " superadditive()", x.superadditive(), model.superadditive()); break;
            case 7: check.due(name + " alike(" + player + ", " + other + ")",
                    x.alike(player, other), model.alike(player, other)); break;
            default: due("bestSplit()", x.bestSplit(), model.bestSplit());
        }
    }

    private void dueWorth(int coalition, int worth) {
        due("worth(" + coalition + ", " + worth + ")", x.worth(coalition, worth), model.worth(coalition, worth));
    }

    private void duePay(int player, int amount) {
        due("pay(" + player + ", " + amount + ")", x.pay(player, amount), model.pay(player, amount));
    }

    private void due(String call, int got, int want) {
        check.due(name + " " + call, got, want);
    }

    /** The same numbers at every start: the test must not depend on a random source. */
    private int between(int least, int greatest) {
        seed = seed * 6364136223846793005L + 1442695040888963407L;
        return least + (int) ((seed >>> 33) % (greatest - least + 1));
    }
}
