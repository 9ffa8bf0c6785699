/** The document's terms, where they name a boundary that no single call owns. */
public final class TermsTest {
    public static void main(String[] args) {
        Check check = new Check();
        theEmptyOneIsAlwaysWorthNothing(check);
        theWholeAndTheEmptyOneInMargins(check);
        questionsChangeNothing(check);
        manyQuestionsChangeNothing(check);
        check.end();
    }

    /** "the worth of the empty one is always 0": after every kind of change, taken or refused. */
    private static void theEmptyOneIsAlwaysWorthNothing(Check check) {
        CoalitionValues x = new CoalitionValues();
        Model model = new Model();
        for (int round = 0; round < 20; round++) {
            x.worth(0, 1000 - round);
            x.worth(0, -1000);
            x.weigh(0, 0);
            x.weigh(-1, 0);
            x.exchange(-1, 0);
            x.worth(32, 3);
            for (int s = 1; s < 32; s += 10) {
                x.worth(s, 50 * round - 500 + s);
                model.worth(s, 50 * round - 500 + s);
            }
            x.exchange(round % 5, round / 5 % 5);
            model.exchange(round % 5, round / 5 % 5);
            check.due("the worth of nobody in round " + round, Games.worthOfTheEmptyOne(x, model.worths), 0);
            x.pay(round % 5, -round);
            if (round % 7 == 6) {
                check.due("weigh(0, 1) in round " + round, x.weigh(0, 1), 0);
                model.weigh(0, 1);
                check.due("the worth of nobody after it", Games.worthOfTheEmptyOne(x, model.worths), 0);
            }
        }
    }

    /** "the worth with the player less the worth without": nobody without, and all five with. */
    private static void theWholeAndTheEmptyOneInMargins(Check check) {
        for (int p = 0; p < 5; p++) {
            CoalitionValues x = new CoalitionValues();
            x.worth(1 << p, 1000);
            x.worth(31, -1000);
            check.due("swingValue(" + p + ") of both margins", x.swingValue(p), 0);
            check.due("orderValue(" + p + ") of both margins", x.orderValue(p), 0);
            x.worth(1 << p, -1000);
            check.due("swingValue(" + p + ") of both losses", x.swingValue(p), -2000);
            check.due("orderValue(" + p + ") of both losses", x.orderValue(p), -48000);
        }
    }

    /** "The calls below change nothing.": each of the nine, with every good argument and with wrong ones. */
    private static void questionsChangeNothing(Check check) {
        for (int p = -1; p <= 5; p++) {
            int player = p;
            Untouched.due(check, "orderValue(" + p + ")", x -> x.orderValue(player));
            Untouched.due(check, "swingValue(" + p + ")", x -> x.swingValue(player));
            for (int q = -1; q <= 5; q++) {
                int other = q;
                Untouched.due(check, "alike(" + p + ", " + q + ")", x -> x.alike(player, other) ? 1 : 0);
            }
        }
        for (int s = 0; s <= 32; s++) {
            int coalition = s;
            Untouched.due(check, "own(" + s + ")", x -> x.own(coalition));
        }
        Untouched.due(check, "complaint()", x -> x.complaint());
        Untouched.due(check, "inCore()", x -> x.inCore() ? 1 : 0);
        Untouched.due(check, "convex()", x -> x.convex() ? 1 : 0);
        Untouched.due(check, "superadditive()", x -> x.superadditive() ? 1 : 0);
        Untouched.due(check, "bestSplit()", x -> x.bestSplit());
    }

    /** The same when they all come one after the other, twice: the second answers are the first ones. */
    private static void manyQuestionsChangeNothing(Check check) {
        Untouched.due(check, "all questions twice", x -> allAnswers(x) - allAnswers(x), 0);
    }

    private static int allAnswers(CoalitionValues x) {
        int answers = 0;
        for (int p = 0; p < 5; p++) {
            answers = 31 * answers + x.orderValue(p);
            answers = 31 * answers + x.swingValue(p);
            for (int q = 0; q < 5; q++) {
                answers = 31 * answers + (x.alike(p, q) ? 1 : 0);
            }
        }
        for (int s = 1; s < 32; s++) {
            answers = 31 * answers + x.own(s);
        }
        answers = 31 * answers + x.complaint();
        answers = 31 * answers + (x.inCore() ? 1 : 0);
        answers = 31 * answers + (x.convex() ? 1 : 0);
        answers = 31 * answers + (x.superadditive() ? 1 : 0);
        return 31 * answers + x.bestSplit();
    }
}
