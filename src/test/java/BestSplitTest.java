/** Promise 14: bestSplit. */
public final class BestSplitTest {
    public static void main(String[] args) {
        Check check = new Check();
        everySplitCounts(check);
        examples(check);
        allTogetherAndAllAlone(check);
        greatestAndLeast(check);
        theEmptyOneGivesNothing(check);
        answersMayEqualTheConstants(check);
        forgetsEarlierCalls(check);
        check.end();
    }

    /** Every way to send the players to rooms, made the only good split in its turn. */
    private static void everySplitCounts(Check check) {
        for (int way = 0; way < 3125; way++) {
            int[] rooms = new int[5];
            int rest = way;
            for (int p = 0; p < 5; p++) {
                rooms[rest % 5] |= 1 << p;
                rest /= 5;
            }
            int[] worths = Games.bySize(-1000, -1000, -1000, -1000, -1000);
            int due = 0;
            for (int k = 0; k < 5; k++) {
                if (rooms[k] != 0) {
                    worths[rooms[k]] = 10 + k;
                    due += 10 + k;
                }
            }
            check.due("bestSplit() with only split " + way, Games.withWorths(worths).bestSplit(), due);
        }
    }

    private static void examples(Check check) {
        CoalitionValues x = new CoalitionValues();
        x.weigh(0x11111, 2);
        check.due("bestSplit() when two win", x.bestSplit(), 2);
        x.weigh(0x11111, 1);
        check.due("bestSplit() when one wins", x.bestSplit(), 5);
        check.due("bestSplit() of squares", Games.withWorths(Games.squares()).bestSplit(), 25);
        check.due("bestSplit() of a loss where two are least",
                Games.withWorths(Games.bySize(-900, -10, -30, -400, -1000)).bestSplit(), -40);
    }

    /** The coarsest split is all five in one coalition, the finest is each alone. */
    private static void allTogetherAndAllAlone(Check check) {
        CoalitionValues x = Games.withWorths(Games.bySize(10, 20, 30, 40, 51));
        check.due("bestSplit() when together is best by 1", x.bestSplit(), 51);
        x.worth(31, 50);
        check.due("bestSplit() when all are equal", x.bestSplit(), 50);
        x.worth(31, 49);
        check.due("bestSplit() when together is worst by 1", x.bestSplit(), 50);
        CoalitionValues y = Games.withWorths(Games.bySize(10, 19, 29, 39, 49));
        check.due("bestSplit() when alone is best by 1", y.bestSplit(), 50);
        y.worth(16, 9);
        check.due("bestSplit() when one alone has less", y.bestSplit(), 49);
    }

    /** The greatest and the least total that worths in -1000 to 1000 can give. */
    private static void greatestAndLeast(Check check) {
        check.due("the greatest bestSplit()",
                Games.withWorths(Games.bySize(1000, 1000, 1000, 1000, 1000)).bestSplit(), 5000);
        check.due("the greatest bestSplit() of players alone",
                Games.withWorths(Games.bySize(1000, -1000, -1000, -1000, -1000)).bestSplit(), 5000);
        check.due("the least bestSplit()",
                Games.withWorths(Games.bySize(-1000, -1000, -1000, -1000, -1000)).bestSplit(), -1000);
        check.due("bestSplit() one above the least",
                Games.withWorths(Games.bySize(-1000, -1000, -1000, -1000, -999)).bestSplit(), -999);
    }

    /** "each player in just one": none may be left out, so a loss that all splits have is there in the answer. */
    private static void theEmptyOneGivesNothing(Check check) {
        CoalitionValues x = Games.withWorths(Games.bySize(-1, -1, -1, -1, -1));
        check.due("bestSplit() of a loss of 1 each", x.bestSplit(), -1);
        for (int p = 0; p < 5; p++) {
            int[] worths = Games.bySize(-1000, -1000, -1000, -1000, -1000);
            worths[31 - (1 << p)] = 700;
            check.due("bestSplit() that would leave out player " + p, Games.withWorths(worths).bestSplit(), -300);
        }
    }

    private static void answersMayEqualTheConstants(Check check) {
        for (int answer = -4; answer < 0; answer++) {
            CoalitionValues x = Games.withWorths(Games.bySize(-1000, -1000, -1000, -1000, answer));
            check.due("bestSplit() equal to " + answer, x.bestSplit(), answer);
        }
    }

    private static void forgetsEarlierCalls(Check check) {
        CoalitionValues x = new CoalitionValues();
        x.worth(7, 100);
        x.worth(24, 50);
        check.due("bestSplit()", x.bestSplit(), 150);
        check.due("bestSplit() again", x.bestSplit(), 150);
        x.worth(7, -100);
        check.due("bestSplit() after a worth fell", x.bestSplit(), 50);
        x.worth(24, 0);
        check.due("bestSplit() after both fell", x.bestSplit(), 0);
    }
}
