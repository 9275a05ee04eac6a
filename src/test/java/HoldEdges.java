/** The edges of promises 20 to 23, and of HOLDS and TWO in Terms III. */
final class HoldEdges {
    private static final int[] NO_MATTER = {-1, 2, 32, Integer.MIN_VALUE, Integer.MAX_VALUE};
    private static final String HEAD = "letter wet 0;place a rank 1 room 1;place b rank 2 room 1;hand h purse 0;matter m;matter n";
    private static final String EIGHT = "letter wet 0;place a rank 1 room 9;hand h purse 0;matter m;matter n" + ";wrote h a m not inches 1".repeat(8);
    // b stands and says do, a and b are full; a line at c makes a ring of the three.
    private static final String RING = "letter wet 0;place a rank 1 room 1;place b rank 2 room 1;place c rank 3 room 1;over a c;hand h purse 0;"
            + "matter m;matter n;wrote h a m do inches 1;wrote h b m do inches 1";

    private HoldEdges() {
    }

    static void run() {
        holding();
        holds();
        doneIf();
        doneIfRefused();
        two();
        wins();
        winsBy();
    }

    private static void holding() {
        Doc.says("III", "places not folded, with ROOM, at which a line of one inch, written NOW, STANDS, and no line more at any place not folded "
                + "with ROOM then (one inch each) would BEAT it.");
        PostScripts x = Check.told(HEAD);
        Check.due("the higher one, by its last inch", x.holds(0, true), 2);
        x.fold(1);
        Check.due("the higher one is folded", x.holds(0, true), 1);
        x.fold(0);
        Check.due("both are folded", x.holds(0, true), 0);
        x.fold(1);
        Check.due("the lower one is folded", x.holds(0, true), 2);
        x.fold(0);
        x.write(0, 1, 1, true, 1);
        Check.due("no room at the higher one", x.holds(0, true), 1);
        Check.due("there a line stands", x.holds(1, true), 0);
        x.strike(0);
        Check.due("it is struck", x.holds(1, true), 1);
        x.write(0, 0, 1, true, 1);
        Check.due("no room anywhere", x.holds(0, true), 0);
        PostScripts two = Check.told("letter wet 0;place a rank 1 room 2;hand h purse 0;matter m");
        Check.due("a second inch at the same place", two.holds(0, true), 0);
        two.write(0, 0, 0, true, 1);
        Check.due("the last inch, over a line that lies", two.holds(0, true), 1);
        PostScripts higher = Check.told("letter wet 0;place a rank 1 room 1;place b rank 2 room 2;matter m");
        Check.due("the higher one has two", higher.holds(0, true), 0);
        PostScripts down = Check.told("letter wet 0;place a rank 2 room 1;place b rank 1 room 1;place c rank 0 room 9;matter m");
        Check.due("ranks, not numbers", down.holds(0, true), 1);
        PostScripts ring = Check.told(RING);
        Check.due("it doesn't stand in a ring", ring.holds(0, true), 0);
        Check.due("of a matter without lines", ring.holds(1, true), 4);
        PostScripts open = Check.told("letter wet 0;place a rank 1 room 1;place b rank 2 room 1;place c rank 3 room 1;over a c;matter m");
        Check.due("each is beaten by one of the ring", open.holds(0, true), 0);
        Check.due("eight lines lie", Check.told(EIGHT).holds(0, true), 1);
    }

    private static void holds() {
        Doc.says(20, "HOLDS, as bits. NONE: 1.");
        PostScripts x = Check.told(HEAD);
        Check.granted(x, "do", x.holds(0, true), 2);
        Check.granted(x, "not", x.holds(0, false), 2);
        Check.due("nothing is written", x.size(5), 0);
        for (int m : NO_MATTER) {
            Check.refused(x, "holds " + m, x.holds(m, true), -1, 1);
        }
        PostScripts six = Check.told("letter wet 0;place a rank 1 room 9;place b rank 2 room 9;place c rank 3 room 9;place d rank 4 room 9;"
                + "place e rank 5 room 9;place f rank 6 room 1;matter m");
        Check.granted(six, "the last", six.holds(0, true), 32);
    }

    private static void doneIf() {
        Doc.says(21, "DONE, if one inch were written NOW at a place.");
        PostScripts x = Check.told(RING);
        Check.granted(x, "into a ring", x.doneIf(0, 2, true), -2);
        Check.granted(x, "do", x.doneIf(1, 2, true), 1);
        Check.granted(x, "not", x.doneIf(1, 2, false), 0);
        Check.granted(x, "nothing is written", x.size(5), 2);
        x.fold(0);
        Check.granted(x, "no ring by what is read", x.doneIf(0, 2, false), 0);
        PostScripts lower = Check.told(HEAD + ";wrote h b m do inches 1");
        Check.granted(lower, "it is beaten", lower.doneIf(0, 0, false), 1);
        PostScripts not = Check.told(HEAD + ";wrote h b m not inches 1");
        Check.granted(not, "it is beaten by not", not.doneIf(0, 0, true), 0);
        Check.granted(not, "both say not", not.doneIf(0, 0, false), 0);
        PostScripts eight = Check.told(EIGHT);
        Check.granted(eight, "eight lines lie", eight.doneIf(0, 0, true), 1);
    }

    private static void doneIfRefused() {
        Doc.says(21, "NONE: 1; 5 (it is folded); 3 (no ROOM).");
        PostScripts x = Check.told(RING);
        Check.refused(x, "no room", x.doneIf(0, 0, true), -1, 3);
        x.fold(0);
        Check.refused(x, "folded, and no room", x.doneIf(0, 0, true), -1, 5);
        x.fold(2);
        Check.refused(x, "folded", x.doneIf(0, 2, true), -1, 5);
        for (int m : NO_MATTER) {
            Check.refused(x, "no such matter, and folded", x.doneIf(m, 0, true), -1, 1);
            Check.refused(x, "no such place", x.doneIf(0, m == 2 ? 3 : m, true), -1, 1);
        }
        x.fold(2);
        Check.granted(x, "one inch is enough", x.doneIf(1, 2, true), 1);
    }

    private static void same(String what, PostScripts x, int[] wins, int[] by) {
        for (int n = 0; n <= 4; n++) {
            Check.granted(x, what + ": wins " + n, x.wins(0, n), wins[n]);
            if (n > 0) {
                Check.granted(x, what + ": winsBy " + n, x.winsBy(0, n), by[n]);
            }
        }
    }

    private static void two() {
        Doc.says("III", "the other one wants it otherwise (not done, in doubt)");
        same("the other one makes a ring", Check.told(RING), new int[] {1, 1, 0, 0, 0}, new int[] {0, -2, -2, -2, -2});
        Doc.says("III", "at a place not folded with ROOM, or nothing");
        PostScripts folded = Check.told(RING);
        folded.fold(2);
        same("it is folded", folded, new int[] {1, 1, 1, 1, 1}, new int[] {0, -2, -2, -2, -2});
        PostScripts full = Check.told(RING);
        full.write(0, 2, 1, true, 1);
        same("there is no room", full, new int[] {1, 1, 1, 1, 1}, new int[] {0, -2, -2, -2, -2});
        PostScripts inches = Check.told("letter wet 0;place a rank 1 room 2;matter m");
        same("the one, the other one, each an inch", inches, new int[] {0, 1, 0, 1, 0}, new int[] {0, 0, -2, -2, -2});
        PostScripts last = Check.told("letter wet 0;place a rank 1 room 1;matter m");
        same("the last inch", last, new int[] {0, 1, 1, 1, 1}, new int[] {0, 0, 0, 0, 0});
        Doc.says("III", "(lines needn't have room for more than 8; whose hand is of no matter)");
        same("eight lines lie", Check.told(EIGHT), new int[] {0, 1, 1, 1, 1}, new int[] {0, 0, 0, 0, 0});
        Check.due("no hand was told", last.size(3), 0);
    }

    private static void wins() {
        Doc.says("III", "n moves (0 .. 4), the one first, who wants it done (do)");
        PostScripts says = Check.told(HEAD + ";wrote h b m do inches 1;wrote h a n not inches 1");
        Check.granted(says, "no move: it is done", says.wins(0, 0), 1);
        Check.granted(says, "no move: it isn't", says.wins(1, 0), 0);
        PostScripts none = Check.told(HEAD);
        Check.granted(none, "no move: it is in doubt", none.wins(0, 0), 0);
        Doc.says(22, "1 if the one who writes first gets it done, both writing best, else 0.");
        same("the higher place, at once", none, new int[] {0, 1, 1, 1, 1}, new int[] {0, 0, 1, 1, 1});
        Check.due("nothing is written", none.size(5), 0);
        Check.due("no room is lost", none.place(1, 2), 1);
        Doc.says(22, "NONE: 1; 2.");
        for (int m : NO_MATTER) {
            Check.refused(none, "no such matter, nor number", none.wins(m, 5), -1, 1);
            Check.refused(none, "no such matter", none.wins(m, 0), -1, 1);
        }
        int[] numbers = {-1, 5, Integer.MIN_VALUE, Integer.MAX_VALUE};
        for (int n : numbers) {
            Check.refused(none, "wins " + n, none.wins(0, n), -1, 2);
        }
    }

    private static void winsBy() {
        Doc.says(23, "The first place by which he does (n 1 .. 4); -2 nothing does it, too, or he doesn't.");
        PostScripts first = Check.told("letter wet 0;place a rank 3 room 1;place b rank 2 room 1;place c rank 1 room 1;hand h purse 0;matter m;matter n");
        Check.granted(first, "the first of three", first.winsBy(0, 1), 0);
        first.write(0, 0, 1, true, 1);
        Check.granted(first, "the first is full", first.winsBy(0, 1), 1);
        first.fold(1);
        Check.granted(first, "the second is folded", first.winsBy(0, 1), 2);
        first.fold(2);
        Check.granted(first, "he doesn't", first.winsBy(0, 1), -2);
        PostScripts guard = Check.told(HEAD + ";wrote h a m do inches 1");
        Check.granted(guard, "it is done, and no one comes behind", guard.winsBy(0, 1), -2);
        Check.granted(guard, "it is done, but not behind the other one", guard.winsBy(0, 2), 1);
        Check.granted(guard, "he can mend nothing later", guard.winsBy(0, 3), 1);
        PostScripts last = Check.told("letter wet 0;place a rank 1 room 1;place b rank 2 room 1;place c rank 3 room 1;place d rank 4 room 1;"
                + "place e rank 5 room 1;place f rank 6 room 1;matter m");
        Check.granted(last, "the last place", last.winsBy(0, 2), 5);
        last.fold(5);
        Check.granted(last, "the last but one", last.winsBy(0, 4), 4);
        PostScripts stands = Check.told(HEAD + ";wrote h b m do inches 1");
        Check.granted(stands, "nothing does it, too", stands.winsBy(0, 1), -2);
        Check.granted(stands, "though he wins", stands.wins(0, 1), 1);
        Doc.says(23, "NONE: 1; 2.");
        for (int m : NO_MATTER) {
            Check.refused(stands, "no such matter, nor number", stands.winsBy(m, 0), -1, 1);
            Check.refused(stands, "no such matter", stands.winsBy(m, 1), -1, 1);
        }
        int[] numbers = {-1, 0, 5, Integer.MIN_VALUE, Integer.MAX_VALUE};
        for (int n : numbers) {
            Check.refused(stands, "winsBy " + n, stands.winsBy(0, n), -1, 2);
        }
    }
}
