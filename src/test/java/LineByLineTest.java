/** Promises 14 to 19: what it came to line by line, idle lines, the fewest to strike. */
public final class LineByLineTest {
    private static final String HEAD = "letter wet 50;place a rank 1 room 9;place b rank 2 room 9;place c rank 3 room 9;hand h purse 9;"
            + "matter m;matter n;matter o";
    private static final String TEXT = HEAD + ";wrote h a m do inches 1;wrote h b m not inches 2;wrote h b n do inches 1;"
            + "wrote h b n not inches 1;wrote h c n do inches 2";

    public static void main(String[] args) {
        lineByLine();
        turns();
        refusals();
        Check.end("LineByLineTest");
    }

    private static void lineByLine() {
        PostScripts x = Check.told(TEXT);
        int[][] want = {{-2, 1, 0, 0, 0, 0}, {-2, -2, -2, 1, 0, 1}, {-2, -2, -2, -2, -2, -2}};
        int[] changes = {2, 3, 0};
        int[] since = {2, 5, 0};
        for (int m = 0; m < 3; m++) {
            for (int n = 0; n <= 5; n++) {
                Check.due("doneBy " + m + " " + n, x.doneBy(m, n), want[m][n]);
            }
            Check.due("changes " + m, x.changes(m), changes[m]);
            Check.due("since " + m, x.since(m), since[m]);
        }
        x.strike(1);
        Check.due("struck as now", x.doneBy(0, 2), 1);
        Check.due("changes then", x.changes(0), 1);
        Check.due("since then", x.since(0), 1);
        x.fold(2);
        Check.due("folded as now", x.doneBy(1, 5), 0);
        Check.due("changes folded", x.changes(1), 2);
        Check.due("since folded", x.since(1), 4);
        x.strike(3);
        x.write(0, 0, 1, false, 1);
        Check.due("a line below changes nothing", x.changes(1), 1);
        Check.due("since a line below", x.since(1), 3);
        Check.due("doneBy six", x.doneBy(1, 6), 1);
    }

    private static void turns() {
        PostScripts x = Check.told(TEXT);
        Check.due("idle", x.idle(), 13);
        Check.due("turn m", x.turn(0), 2);
        Check.due("turn n", x.turn(1), 16);
        Check.due("turn o", x.turn(2), -2);
        Check.due("weakest, the first", x.weakest(), 0);
        x.strike(0);
        Check.due("a struck line isn't idle", x.idle(), 12);
        Check.due("turn to doubt", x.turn(0), 2);
        PostScripts y = Check.told(HEAD + ";wrote h a m do inches 1;wrote h a n do inches 1;wrote h b m do inches 1;wrote h a m do inches 1;"
                + "wrote h c n do inches 1;wrote h b n not inches 1");
        Check.due("all that say do", y.turn(0), 13);
        Check.due("one is enough", y.turn(1), 16);
        Check.due("the weakest needs fewer", y.weakest(), 1);
        Check.due("idle by what it comes to", y.idle(), 1 + 2 + 4 + 8 + 32);
        PostScripts ring = Check.told("letter wet 0;place a rank 1 room 9;place b rank 2 room 9;place c rank 3 room 9;over a c;hand h purse 0;matter m;"
                + "wrote h c m do inches 1;wrote h b m do inches 1;wrote h a m do inches 1");
        Check.due("the least bits of a ring", ring.turn(0), 1);
        Check.due("none of a ring is idle", ring.idle(), 0);
        Check.due("weakest of a ring", ring.weakest(), 0);
        StringBuilder eight = new StringBuilder(HEAD);
        for (int i = 0; i < 8; i++) {
            eight.append(";wrote h a n do inches 1");
        }
        Check.due("all eight", Check.told(eight.toString()).turn(1), 255);
        Check.due("weakest by eight", Check.told(eight.toString()).weakest(), 1);
        PostScripts none = Check.told(HEAD);
        Check.due("idle of none", none.idle(), 0);
        Check.due("weakest of none", none.weakest(), -2);
    }

    private static void refusals() {
        PostScripts x = Check.told(TEXT);
        Check.refused(x, "doneBy 3 9", x.doneBy(3, 9), -1, 1);
        Check.refused(x, "doneBy -1 0", x.doneBy(-1, 0), -1, 1);
        Check.refused(x, "doneBy 0 6", x.doneBy(0, 6), -1, 2);
        Check.refused(x, "doneBy 0 -1", x.doneBy(0, -1), -1, 2);
        Check.refused(x, "changes 3", x.changes(3), -1, 1);
        Check.refused(x, "since -1", x.since(-1), -1, 1);
        Check.refused(x, "turn 3", x.turn(3), -1, 1);
        Check.refused(x, "turn none", x.turn(2), -2, 0);
        PostScripts y = new PostScripts();
        Check.refused(y, "no letter: idle", y.idle(), -1, 1);
        Check.refused(y, "no letter: weakest", y.weakest(), -1, 1);
    }
}
