/** "An object is used for at most 512 calls": the 512th is still answered as the document says, whichever it is. */
public final class LastCallTest {
    private static final int KINDS = 13;
    private static final int CALLS = 512;

    public static void main(String[] args) {
        Check check = new Check();
        for (int kind = 0; kind < KINDS; kind++) {
            oneKindAlone(check, kind);
            oneKindAfterAllKinds(check, kind);
        }
        check.end();
    }

    private static void oneKindAlone(Check check, int kind) {
        CoalitionValues x = new CoalitionValues();
        Model model = new Model();
        for (int call = 1; call <= CALLS; call++) {
            due(check, "alone, call " + call, x, model, kind, call);
        }
    }

    private static void oneKindAfterAllKinds(Check check, int kind) {
        CoalitionValues x = new CoalitionValues();
        Model model = new Model();
        for (int call = 1; call < CALLS; call++) {
            due(check, "among others, call " + call, x, model, call % 10 == 9 ? 2 : call % KINDS, call);
        }
        due(check, "among others, last call", x, model, kind, CALLS);
    }

    /** Arguments run through the good ones, from the least to the greatest, and the ones just outside. */
    private static void due(Check check, String where, CoalitionValues x, Model model, int kind, int call) {
        int player = call % 7 - 1;
        int other = call / 7 % 7 - 1;
        int coalition = call % 33;
        switch (kind) {
            case 0: {
                int worth = call * 389 % 2005 - 1002;
                check.due(where + ": worth(" + coalition + ", " + worth + ")",
                        x.worth(coalition, worth), model.worth(coalition, worth));
                break;
            }
            case 1: {
                int amount = call * 3889 % 20005 - 10002;
                check.due(where + ": pay(" + player + ", " + amount + ")",
                        x.pay(player, amount), model.pay(player, amount));
                break;
            }
            case 2: {
                int weights = call * 0x9E3779B1;
                int quota = call % 77;
                check.due(where + ": weigh(" + weights + ", " + quota + ")",
                        x.weigh(weights, quota), model.weigh(weights, quota));
                break;
            }
            case 3:
                check.due(where + ": exchange(" + player + ", " + other + ")",
                        x.exchange(player, other), model.exchange(player, other));
                break;
            case 4:
                check.due(where + ": orderValue(" + player + ")", x.orderValue(player), model.orderValue(player));
                break;
            case 5:
                check.due(where + ": swingValue(" + player + ")", x.swingValue(player), model.swingValue(player));
                break;
            case 6:
                check.due(where + ": own(" + coalition + ")", x.own(coalition), model.own(coalition));
                break;
            case 7:
                check.due(where + ": complaint()", x.complaint(), model.complaint());
                break;
            case 8:
                check.due(where + ": inCore()", x.inCore(), model.inCore());
                break;
            case 9:
                check.due(where + ": convex()", x.convex(), model.convex());
                break;
            case 10:
                check.due(where + ": superadditive()", x.superadditive(), model.superadditive());
                break;
            case 11:
                check.due(where + ": alike(" + player + ", " + other + ")",
                        x.alike(player, other), model.alike(player, other));
                break;
            default:
                check.due(where + ": bestSplit()", x.bestSplit(), model.bestSplit());
        }
    }
}
