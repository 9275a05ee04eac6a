/** The edges of promises 14 to 19: line by line, idle lines, the fewest to strike. */
final class LineEdges {
    private static final int[] NO_MATTER = {-1, 4, 32, Integer.MIN_VALUE, Integer.MAX_VALUE};
    private static final String HEAD = "letter wet 50;place a rank 1 room 9;place b rank 2 room 9;place c rank 3 room 9;over a c;hand h purse 9;"
            + "matter m;matter n;matter o;matter s";

    private LineEdges() {
    }

    static void run() {
        doneBy();
        changes();
        since();
        idle();
        turn();
        weakest();
    }

    private static void doneBy() {
        Doc.says(14, "DONE, if there were but the first n lines (0 .. as many as there are; struck, folded as NOW).");
        PostScripts x = Check.told(HEAD + ";wrote h a m do inches 1;wrote h b m not inches 1;wrote h c m do inches 1");
        int[] want = {-2, 1, 0, -2};
        for (int n = 0; n < want.length; n++) {
            Check.granted(x, "by " + n, x.doneBy(0, n), want[n]);
        }
        Check.granted(x, "another matter by none", x.doneBy(3, 0), -2);
        x.strike(0);
        int[] struck = {-2, -2, 0, 1};
        for (int n = 0; n < struck.length; n++) {
            Check.granted(x, "struck by " + n, x.doneBy(0, n), struck[n]);
        }
        x.fold(2);
        Check.granted(x, "folded by three", x.doneBy(0, 3), 0);
        Check.granted(x, "written", x.write(0, 0, 3, true, 1), 3);
        Check.granted(x, "by four", x.doneBy(3, 4), 1);
        Check.granted(x, "by three then", x.doneBy(3, 3), -2);
        PostScripts none = Check.told(HEAD);
        Check.granted(none, "no lines", none.doneBy(0, 0), -2);
        PostScripts eight = Check.told(HEAD + ";wrote h a m do inches 1".repeat(8));
        Check.granted(eight, "all eight", eight.doneBy(0, 8), 1);
        Doc.says(14, "NONE: 1; 2.");
        for (int m : NO_MATTER) {
            Check.refused(x, "matter " + m, x.doneBy(m, 0), -1, 1);
            Check.refused(x, "matter and number " + m, x.doneBy(m, -1), -1, 1);
        }
        int[] numbers = {-1, 5, 9, Integer.MIN_VALUE, Integer.MAX_VALUE};
        for (int n : numbers) {
            Check.refused(x, "number " + n, x.doneBy(0, n), -1, 2);
        }
        Check.refused(none, "one of none", none.doneBy(0, 1), -1, 2);
        Check.refused(eight, "nine of eight", eight.doneBy(0, 9), -1, 2);
    }

    private static void changes() {
        Doc.says(15, "How often DONE came to be something else, line by line from none on.");
        PostScripts x = Check.told(HEAD);
        Check.granted(x, "no lines", x.changes(0), 0);
        x.write(0, 1, 0, false, 1);
        Check.granted(x, "out of doubt", x.changes(0), 1);
        x.write(0, 1, 0, false, 1);
        Check.granted(x, "the same again", x.changes(0), 1);
        x.write(0, 0, 0, true, 1);
        Check.granted(x, "a line that is beaten", x.changes(0), 1);
        x.write(0, 1, 1, true, 1);
        Check.granted(x, "a line of another matter", x.changes(0), 1);
        x.write(0, 2, 0, true, 1);
        Check.granted(x, "into doubt again", x.changes(0), 2);
        x.strike(2);
        Check.granted(x, "no ring by what is read", x.changes(0), 2);
        x.strike(4);
        Check.granted(x, "struck as now", x.changes(0), 1);
        x.fold(1);
        Check.granted(x, "folded as now", x.changes(0), 0);
        PostScripts eight = Check.told(HEAD + ";wrote h a m do inches 1;wrote h a m not inches 1".repeat(4));
        Check.granted(eight, "by each line", eight.changes(0), 8);
        Check.granted(eight, "another one never", eight.changes(3), 0);
        Doc.says(15, "NONE: 1.");
        for (int m : NO_MATTER) {
            Check.refused(x, "changes " + m, x.changes(m), -1, 1);
        }
    }

    private static void since() {
        Doc.says(16, "The fewest lines from which on, line by line, it was as it is NOW.");
        PostScripts x = Check.told(HEAD);
        Check.granted(x, "no lines", x.since(0), 0);
        x.write(0, 1, 1, true, 1);
        Check.granted(x, "in doubt from none on", x.since(0), 0);
        x.write(0, 1, 0, true, 1);
        Check.granted(x, "from the last on", x.since(0), 2);
        x.write(0, 0, 0, false, 1);
        Check.granted(x, "from the last but one on", x.since(0), 2);
        x.write(0, 1, 0, false, 1);
        x.write(0, 1, 0, true, 1);
        Check.granted(x, "it was so earlier, too, but not all the time", x.since(0), 5);
        x.strike(3);
        Check.granted(x, "all the time by what is read", x.since(0), 2);
        x.fold(1);
        Check.granted(x, "folded as now", x.since(0), 3);
        x.fold(0);
        Check.granted(x, "none is read", x.since(0), 0);
        PostScripts same = Check.told(HEAD + ";wrote h a m do inches 1".repeat(8));
        Check.granted(same, "from the first on", same.since(0), 1);
        PostScripts eight = Check.told(HEAD + ";wrote h a m do inches 1;wrote h a m not inches 1".repeat(4));
        Check.granted(eight, "from the eighth on", eight.since(0), 8);
        PostScripts doubt = Check.told(HEAD + ";wrote h a m do inches 1;wrote h b m do inches 1;wrote h c m do inches 1");
        Check.granted(doubt, "in doubt at first, and again", doubt.since(0), 3);
        Doc.says(16, "NONE: 1.");
        for (int m : NO_MATTER) {
            Check.refused(x, "since " + m, x.since(m), -1, 1);
        }
    }

    private static void idle() {
        Doc.says(17, "READ lines, struck alone, by which all matters stay as they are, as bits.");
        PostScripts x = Check.told(HEAD + ";wrote h a m do inches 1".repeat(8));
        Check.granted(x, "each alone", x.idle(), 255);
        x.strike(0);
        Check.granted(x, "a struck one isn't read", x.idle(), 254);
        for (int k = 1; k < 7; k++) {
            x.strike(k);
        }
        Check.granted(x, "the last that is left isn't idle", x.idle(), 0);
        x.fold(0);
        Check.granted(x, "a folded one isn't read", x.idle(), 0);
        PostScripts two = Check.told(HEAD + ";wrote h a m do inches 1;wrote h b m not inches 1;wrote h a n do inches 1;wrote h b n do inches 1");
        Check.granted(two, "all matters stay", two.idle(), 1 + 4 + 8);
        PostScripts ring = Check.told(HEAD + ";wrote h a m do inches 1;wrote h b m do inches 1;wrote h c m do inches 1;wrote h c m do inches 1");
        Check.granted(ring, "in doubt, too", ring.idle(), 4 + 8);
        Check.granted(ring, "no lines", Check.told(HEAD).idle(), 0);
        Doc.says(17, "NONE: 1 (no LETTER).");
        PostScripts none = new PostScripts();
        Check.refused(none, "no letter", none.idle(), -1, 1);
    }

    private static void turn() {
        Doc.says("III", "TURN of a matter: the fewest READ lines, struck, by which DONE is otherwise: of like ones the least bits.");
        PostScripts all = Check.told(HEAD + ";wrote h a m do inches 1".repeat(8));
        Check.granted(all, "all eight", all.turn(0), 255);
        all.strike(3);
        Check.granted(all, "those that are read", all.turn(0), 255 - 8);
        PostScripts last = Check.told(HEAD + ";wrote h a s not inches 1".repeat(7) + ";wrote h b s do inches 1");
        Check.granted(last, "the last alone", last.turn(3), 128);
        PostScripts ring = Check.told(HEAD + ";wrote h b n do inches 1;wrote h c m do inches 1;wrote h b m do inches 1;wrote h a m do inches 1");
        Check.granted(ring, "the least bits", ring.turn(0), 2);
        PostScripts double0 = Check.told(HEAD + ";wrote h a m do inches 1;wrote h a m do inches 1;wrote h b m do inches 1;wrote h c m do inches 1");
        Check.granted(double0, "the fewest ahead of the least bits", double0.turn(0), 4);
        Doc.says(18, "TURN, as bits; -2 by none.");
        PostScripts x = Check.told(HEAD + ";wrote h a m do inches 1;wrote h b n not inches 1");
        Check.granted(x, "one", x.turn(0), 1);
        Check.granted(x, "of another matter", x.turn(1), 2);
        Check.granted(x, "no line", x.turn(2), -2);
        x.strike(0);
        Check.granted(x, "none that is read", x.turn(0), -2);
        x.fold(1);
        Check.granted(x, "none that is unfolded", x.turn(1), -2);
        Doc.says(18, "NONE: 1.");
        for (int m : NO_MATTER) {
            Check.refused(x, "turn " + m, x.turn(m), -1, 1);
        }
    }

    private static void weakest() {
        Doc.says(19, "The matter with the fewest for its TURN, the first such; -2 none.");
        PostScripts x = Check.told(HEAD + ";wrote h a n do inches 1;wrote h a n do inches 1;wrote h a o do inches 1;wrote h a o do inches 1;wrote h a s do inches 1");
        Check.granted(x, "the last has the fewest", x.weakest(), 3);
        x.write(0, 0, 3, true, 1);
        Check.granted(x, "the first of three; the one in doubt has no turn", x.weakest(), 1);
        x.strike(3);
        Check.granted(x, "fewer", x.weakest(), 2);
        x.fold(0);
        Check.granted(x, "none", x.weakest(), -2);
        Check.granted(x, "no lines", Check.told(HEAD).weakest(), -2);
        PostScripts eight = Check.told(HEAD + ";wrote h a s do inches 1".repeat(8));
        Check.granted(eight, "eight of one", eight.weakest(), 3);
        PostScripts first = Check.told(HEAD + ";wrote h a m do inches 1;wrote h a n do inches 1");
        Check.granted(first, "the first of all", first.weakest(), 0);
        Doc.says(19, "NONE: 1 (no LETTER).");
        PostScripts none = new PostScripts();
        Check.refused(none, "no letter", none.weakest(), -1, 1);
    }
}
