/** Promise 14: bestSplit. */
public final class BestSplitTest {
    public static void main(String[] args) {
        Check check = new Check();
        everySplitCounts(check);
        examples(check);
        forgetsEarlierCalls(check);
        check.end();
    }

    /** Every way to send the players to rooms, made the only good split in its turn. */
    private static void everySplitCounts(Check check) {
        for (int way = 0; way < 3125; way++) {
            int[] rooms = new int[5];
            int rest = way;
            for (int p = 0; p < 5; p++) {
                rooms[rest % 5] |= 1 << p;
                rest /= 5;
            }
            int[] worths = Games.bySize(-1000, -1000, -1000, -1000, -1000);
            int due = 0;
            for (int k = 0; k < 5; k++) {
                if (rooms[k] != 0) {
                    worths[rooms[k]] = 10 + k;
                    due += 10 + k;
                }
            }
            check.due("bestSplit() with only split " + way, Games.withWorths(worths).bestSplit(), due);
        }
    }

    private static void examples(Check check) {
        CoalitionValues x = new CoalitionValues();
        x.weigh(0x11111, 2);
        check.due("bestSplit() when two win", x.bestSplit(), 2);
        x.weigh(0x11111, 1);
        check.due("bestSplit() when one wins", x.bestSplit(), 5);
        check.due("bestSplit() of squares", Games.withWorths(Games.squares()).bestSplit(), 25);
        check.due("bestSplit() of a thousand each",
                Games.withWorths(Games.bySize(1000, 1000, 1000, 1000, 1000)).bestSplit(), 5000);
        check.due("bestSplit() of a loss each",
                Games.withWorths(Games.bySize(-1000, -1000, -1000, -1000, -1000)).bestSplit(), -1000);
        check.due("bestSplit() of a loss where two are least",
                Games.withWorths(Games.bySize(-900, -10, -30, -400, -1000)).bestSplit(), -40);
    }

    private static void forgetsEarlierCalls(Check check) {
        CoalitionValues x = new CoalitionValues();
        x.worth(7, 100);
        x.worth(24, 50);
        check.due("bestSplit()", x.bestSplit(), 150);
        check.due("bestSplit() again", x.bestSplit(), 150);
        x.worth(7, -100);
        check.due("bestSplit() after a worth fell", x.bestSplit(), 50);
        x.worth(24, 0);
        check.due("bestSplit() after both fell", x.bestSplit(), 0);
    }
}
