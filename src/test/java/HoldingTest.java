/** Promises 20 to 23: places that hold, and two who write by turns. */
public final class HoldingTest {
    private static final String TEXT = "letter wet 0;place a rank 1 room 2;place b rank 2 room 1;place c rank 3 room 1;hand h purse 0;"
            + "matter m;matter n;wrote h c m do inches 1";

    public static void main(String[] args) {
        holding();
        oneInch();
        eightLines();
        turns();
        refusals();
        Check.end("HoldingTest");
    }

    private static void holding() {
        PostScripts x = Check.told(TEXT);
        Check.due("beaten by c", x.holds(0, true), 0);
        Check.due("b holds", x.holds(1, true), 2);
        Check.due("b holds the other way", x.holds(1, false), 2);
        x.fold(1);
        Check.due("a second inch at a", x.holds(1, true), 0);
        x.write(0, 0, 0, true, 1);
        Check.due("the last inch at a", x.holds(1, true), 1);
        x.fold(1);
        Check.due("b is open again", x.holds(1, true), 2);
        x.write(0, 1, 0, true, 1);
        Check.due("b is full of another matter", x.holds(1, true), 1);
        x.undo();
        x.write(0, 1, 1, true, 1);
        Check.due("b is full of this matter", x.holds(1, true), 0);
        x.strike(2);
        Check.due("b's line is struck", x.holds(1, true), 1);
        PostScripts ring = Check.told("letter wet 0;place a rank 1 room 1;place b rank 2 room 1;place c rank 3 room 1;over a c;matter m");
        Check.due("none holds in a ring", ring.holds(0, true), 0);
        ring.fold(0);
        Check.due("c holds then", ring.holds(0, true), 4);
    }

    private static void oneInch() {
        PostScripts x = Check.told(TEXT);
        Check.due("c still stands", x.doneIf(0, 0, false), 1);
        Check.due("a says not", x.doneIf(1, 0, false), 0);
        Check.due("b says do", x.doneIf(1, 1, true), 1);
        Check.due("nothing was written", x.size(5), 1);
        Check.refused(x, "c is full", x.doneIf(1, 2, true), -1, 3);
        x.fold(2);
        Check.refused(x, "c is folded", x.doneIf(1, 2, true), -1, 5);
        Check.due("c isn't read", x.doneIf(0, 0, false), 0);
        PostScripts ring = Check.told("letter wet 0;place a rank 1 room 9;place b rank 2 room 9;place c rank 3 room 9;over a c;hand h purse 0;matter m;"
                + "wrote h a m do inches 1;wrote h b m not inches 1");
        Check.due("into a ring", ring.doneIf(0, 2, true), -2);
        Check.due("later at the same place", ring.doneIf(0, 1, true), 1);
    }

    private static void eightLines() {
        StringBuilder text = new StringBuilder("letter wet 0;place a rank 1 room 9;hand h purse 0;matter m");
        for (int i = 0; i < 8; i++) {
            text.append(";wrote h a m not inches 1");
        }
        PostScripts x = Check.told(text.toString());
        Check.due("the ninth, if it were", x.doneIf(0, 0, true), 1);
        Check.due("the ninth would hold", x.holds(0, true), 1);
        Check.due("the ninth would win", x.wins(0, 1), 1);
        Check.due("by its place", x.winsBy(0, 1), 0);
        Check.refused(x, "but it can't be written", x.write(0, 0, 0, true, 1), -1, 3);
    }

    private static void turns() {
        PostScripts x = Check.told("letter wet 0;place a rank 1 room 1;place b rank 2 room 1;matter m");
        int[] wins = {0, 1, 1, 1, 1};
        int[] by = {-1, 0, 1, 1, 1};
        same(x, wins, by);
        PostScripts two = Check.told("letter wet 0;place a rank 1 room 1;place b rank 2 room 2;matter m");
        int[] twoWins = {0, 1, 0, 1, 0};
        int[] twoBy = {-1, 0, -2, -2, -2};
        same(two, twoWins, twoBy);
        two.fold(1);
        int[] foldedWins = {0, 1, 1, 1, 1};
        int[] foldedBy = {-1, 0, 0, 0, 0};
        same(two, foldedWins, foldedBy);
        PostScripts stands = Check.told("letter wet 0;place a rank 1 room 1;place b rank 2 room 1;hand h purse 0;matter m;wrote h b m do inches 1");
        int[] standsWins = {1, 1, 1, 1, 1};
        int[] standsBy = {-1, -2, -2, -2, -2};
        same(stands, standsWins, standsBy);
        PostScripts none = Check.told("letter wet 0;place a rank 1 room 1;hand h purse 0;matter m;wrote h a m not inches 1");
        int[] noneWins = {0, 0, 0, 0, 0};
        same(none, noneWins, standsBy);
        PostScripts doubt = Check.told("letter wet 0;place a rank 1 room 9;place b rank 2 room 9;place c rank 3 room 1;over a c;hand h purse 0;matter m;"
                + "wrote h a m do inches 9;wrote h b m do inches 9");
        // b stands, and says do: a line at c would make a ring of the three.
        int[] doubtWins = {1, 1, 0, 0, 0};
        int[] doubtBy = {-1, -2, -2, -2, -2};
        same(doubt, doubtWins, doubtBy);
    }

    private static void same(PostScripts x, int[] wins, int[] by) {
        for (int n = 0; n <= 4; n++) {
            Check.due("wins " + n, x.wins(0, n), wins[n]);
            Check.due("winsBy " + n, x.winsBy(0, n), n == 0 ? -1 : by[n]);
        }
    }

    private static void refusals() {
        PostScripts x = Check.told(TEXT);
        Check.refused(x, "holds 2", x.holds(2, true), -1, 1);
        Check.refused(x, "holds -1", x.holds(-1, true), -1, 1);
        Check.refused(x, "doneIf 2", x.doneIf(2, 0, true), -1, 1);
        Check.refused(x, "doneIf place 3", x.doneIf(0, 3, true), -1, 1);
        Check.refused(x, "doneIf place -1", x.doneIf(0, -1, true), -1, 1);
        Check.refused(x, "wins 2 9", x.wins(2, 9), -1, 1);
        Check.refused(x, "wins 0 5", x.wins(0, 5), -1, 2);
        Check.refused(x, "wins 0 -1", x.wins(0, -1), -1, 2);
        Check.refused(x, "winsBy 2 9", x.winsBy(2, 9), -1, 1);
        Check.refused(x, "winsBy 0 0", x.winsBy(0, 0), -1, 2);
        Check.refused(x, "winsBy 0 5", x.winsBy(0, 5), -1, 2);
        Check.refused(x, "winsBy 0 1", x.winsBy(0, 1), -2, 0);
    }
}
