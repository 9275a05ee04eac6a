/** The edges of Terms II and of promises 6 to 13 and 52: places, hands, lines, what stands. */
final class NowEdges {
    private static final int LEAST = Integer.MIN_VALUE;
    private static final int MOST = Integer.MAX_VALUE;
    private static final String SIX = "letter wet 0;place a rank 1 room 9;place b rank 2 room 9;place c rank 3 room 9;place d rank 4 room 9;"
            + "place e rank 5 room 9;place f rank 6 room 9";
    private static final String FOURS = ";hand h purse 0;hand i purse 99;hand j purse 1;hand k purse 2;matter m;matter n;matter o;matter s";

    private NowEdges() {
    }

    static void run() {
        outranking();
        numbers();
        reading();
        beating();
        standing();
        inDoubt();
        room();
        places();
        hands();
        lines();
        doneAndStands();
        allDone();
        ruler();
        power();
        led();
    }

    private static void outranking() {
        Doc.says("II", "A place OUTRANKS another one if it is over it, as told; else, if nothing is told of both, by the higher rank.");
        PostScripts x = Check.told("letter wet 0;place a rank 0 room 1;place b rank 99 room 1;place c rank 1 room 1;over a b;over b c");
        Check.due("over, whatever the rank", x.outranks(0, 1), 1);
        Check.due("under, whatever the rank", x.outranks(1, 0), 0);
        Check.due("over and higher", x.outranks(1, 2), 1);
        Check.due("higher by one", x.outranks(2, 0), 1);
        Check.due("lower by one", x.outranks(0, 2), 0);
        x.fold(0);
        Check.due("folded ones, too", x.outranks(0, 1), 1);
    }

    private static void numbers() {
        Doc.says("II", "Lines are numbered as they were written (told ones first).");
        PostScripts x = Check.told(SIX + FOURS + ";wrote h a m do inches 2;hidden a;hidden b;wrote i b n not inches 3;hidden c");
        Check.due("told first", x.line(0, 4), 2);
        Check.due("told second", x.line(1, 4), 3);
        Check.due("hidden ones have no numbers", x.size(5), 2);
        Check.due("written", x.write(0, 2, 2, true, 4), 2);
        x.strike(1);
        Check.due("written behind a struck one", x.write(0, 3, 2, true, 5), 3);
        Check.due("its inches", x.line(3, 4), 5);
    }

    private static void reading() {
        Doc.says("II", "A line that isn't struck, at a place that isn't folded, is READ.");
        PostScripts x = Check.told(SIX + FOURS + ";wrote h a m do inches 1;wrote h b n do inches 1");
        Check.due("neither", x.line(0, 6), 1);
        x.fold(0);
        Check.due("folded", x.line(0, 6), 0);
        Check.due("at another place", x.line(1, 6), 1);
        x.strike(0);
        Check.due("both", x.line(0, 6), 0);
        x.fold(0);
        Check.due("struck", x.line(0, 6), 0);
        Check.due("another line", x.line(1, 6), 1);
        Check.due("nothing else is done by it", x.done(0), -2);
    }

    private static void beating() {
        Doc.says("II", "One READ line of a matter BEATS another one of it if its place OUTRANKS the other one's, or it is the later one at the same place.");
        PostScripts x = Check.told(SIX + FOURS + ";wrote h a m do inches 1;wrote h a m not inches 1;wrote h b m do inches 1;wrote h a n do inches 1;"
                + "wrote h b m not inches 1;wrote h a m do inches 1");
        int[] want = {2 + 4 + 16 + 32, 4 + 16 + 32, 16, 0, 0, 4 + 16};
        for (int k = 0; k < want.length; k++) {
            Check.due("beaten: " + k, x.line(k, 7), want[k]);
        }
        PostScripts up = Check.told(SIX + FOURS + ";wrote h f m do inches 1;wrote h e m do inches 1;wrote h d m do inches 1;over d f");
        Check.due("an earlier one at a higher place", up.line(1, 7), 1);
        Check.due("a higher one, but not one it is over", up.line(2, 7), 2);
        Check.due("the one over it", up.line(0, 7), 4);
        x.strike(4);
        Check.due("a struck one beats none", x.line(2, 7), 0);
        x.fold(1);
        Check.due("a folded one beats none", x.line(5, 7), 0);
        Check.due("the later one at the same place does", x.line(1, 7), 32);
    }

    private static void standing() {
        Doc.says("II", "A line STANDS if it is READ and none of its matter BEATS it (there is one, or none).");
        PostScripts x = Check.told(SIX + FOURS + ";over a c;wrote h a m do inches 1;wrote h b m do inches 1");
        Check.due("one", x.stands(0), 1);
        x.write(0, 2, 0, true, 1);
        Check.due("none: three in a ring", x.stands(0), -2);
        x.write(0, 2, 0, true, 1);
        Check.due("none: a later one in the ring", x.stands(0), -2);
        x.write(0, 3, 0, false, 1);
        Check.due("one above the ring", x.stands(0), 4);
        x.fold(3);
        Check.due("that one isn't read", x.stands(0), -2);
        x.fold(1);
        Check.due("the ring is broken", x.stands(0), 0);
    }

    private static void inDoubt() {
        Doc.says("II", "DONE of a matter: what the line that STANDS says (1 do, 0 not); -2 in doubt: none STANDS.");
        PostScripts x = Check.told(SIX + FOURS + ";wrote h a m do inches 1;wrote h a n not inches 1");
        Check.granted(x, "do", x.done(0), 1);
        Check.granted(x, "not", x.done(1), 0);
        Check.granted(x, "no line", x.done(2), -2);
        x.strike(0);
        Check.granted(x, "struck", x.done(0), -2);
        x.fold(0);
        Check.granted(x, "folded", x.done(1), -2);
    }

    private static void room() {
        Doc.says("II", "ROOM of a place: inches as told less those of all its lines (struck ones too).");
        PostScripts x = Check.told(SIX + FOURS + ";wrote h a m do inches 4;hidden a;bid h a inches 3 pays 0");
        Check.due("hidden lines and bids take none", x.place(0, 2), 5);
        x.strike(0);
        Check.due("struck", x.place(0, 2), 5);
        x.fold(0);
        Check.due("folded", x.place(0, 2), 5);
        x.fold(0);
        Check.due("written", x.write(0, 0, 0, true, 5), 1);
        Check.due("all taken", x.place(0, 2), 0);
        Check.due("inches as told", x.place(0, 1), 9);
        Check.due("others have theirs", x.place(1, 2), 9);
        x.undo();
        Check.due("undone", x.place(0, 2), 5);
    }

    private static void places() {
        Doc.says(6, "Of a place 0 rank, 1 inches as told, 2 ROOM, 3 places it OUTRANKS, as bits, 4 its lines, as bits, 5 1 if it is folded.");
        PostScripts x = Check.told(SIX + FOURS + ";wrote h f m do inches 1".repeat(8));
        int[] last = {6, 9, 1, 31, 255, 0};
        int[] first = {1, 9, 9, 0, 0, 0};
        for (int what = 0; what < 6; what++) {
            Check.granted(x, "the last: " + what, x.place(5, what), last[what]);
            Check.granted(x, "the first: " + what, x.place(0, what), first[what]);
        }
        x.strike(0);
        x.strike(7);
        x.fold(5);
        Check.due("struck lines are its lines", x.place(5, 4), 255);
        Check.due("folded", x.place(5, 5), 1);
        Check.due("the others aren't", x.place(4, 5), 0);
        x.fold(5);
        Check.due("unfolded", x.place(5, 5), 0);
        PostScripts over = Check.told(SIX + ";over a b;over a c;over a d;over a e;over a f");
        Check.due("over all", over.place(0, 3), 62);
        Check.due("over all but the first", over.place(5, 3), 30);
        Doc.says(6, "NONE: 1.");
        int[] no = {-1, 6, 7, 32, LEAST, MOST};
        for (int p : no) {
            Check.refused(x, "place " + p, x.place(p, 0), -1, 1);
            Check.refused(x, "what " + p, x.place(0, p), -1, 1);
        }
        PostScripts one = Check.told("letter wet 0;place a rank 1 room 9");
        Check.refused(one, "the second of one", one.place(1, 0), -1, 1);
    }

    private static void hands() {
        Doc.says(7, "Of a hand 0 purse, 1 his lines, as bits, 2 matters in which a line of his STANDS, as bits.");
        PostScripts x = Check.told(SIX + FOURS + ";wrote k a m do inches 1;wrote k a n not inches 1;wrote k a o do inches 1;wrote k a s not inches 1"
                + ";wrote k b m not inches 1;wrote k b n do inches 1;wrote k b o not inches 1;wrote k b s do inches 1");
        Check.granted(x, "empty purse", x.hand(0, 0), 0);
        Check.granted(x, "full purse", x.hand(1, 0), 99);
        Check.granted(x, "all lines", x.hand(3, 1), 255);
        Check.granted(x, "no lines", x.hand(0, 1), 0);
        Check.granted(x, "all matters, do or not", x.hand(3, 2), 15);
        Check.granted(x, "no matters", x.hand(0, 2), 0);
        x.fold(0);
        x.fold(1);
        Check.due("none stands", x.hand(3, 2), 0);
        Check.due("they are his lines", x.hand(3, 1), 255);
        x.fold(0);
        x.strike(2);
        Check.due("a struck one doesn't stand", x.hand(3, 2), 11);
        Check.due("a struck one is his line", x.hand(3, 1), 255);
        Doc.says(7, "NONE: 1.");
        int[] no = {-1, 4, 32, LEAST, MOST};
        for (int h : no) {
            Check.refused(x, "hand " + h, x.hand(h, 0), -1, 1);
            Check.refused(x, "what " + h, x.hand(0, h), -1, 1);
        }
        Check.refused(x, "what 3", x.hand(0, 3), -1, 1);
        PostScripts none = Check.told(SIX);
        Check.refused(none, "no hands", none.hand(0, 0), -1, 1);
    }

    private static void lines() {
        Doc.says(8, "Of a line 0 whose, 1 its place, 2 its matter, 3 1 it says do, 0 not, 4 inches, 5 1 if it is struck, 6 1 if it is READ, "
                + "7 READ lines that BEAT it (0 if it isn't READ), as bits.");
        PostScripts x = Check.told(SIX + FOURS + ";wrote k f s not inches 1" + ";wrote k f s do inches 1".repeat(7));
        int[] first = {3, 5, 3, 0, 1, 0, 1, 254};
        int[] last = {3, 5, 3, 1, 1, 0, 1, 0};
        for (int what = 0; what < 8; what++) {
            Check.granted(x, "the first: " + what, x.line(0, what), first[what]);
            Check.granted(x, "the last: " + what, x.line(7, what), last[what]);
        }
        x.strike(7);
        Check.due("the last is struck", x.line(7, 5), 1);
        Check.due("the first isn't", x.line(0, 5), 0);
        x.undo();
        x.strike(0);
        Check.due("the last isn't", x.line(7, 5), 0);
        Check.due("struck", x.line(0, 5), 1);
        Check.due("not read", x.line(0, 6), 0);
        Check.due("0 if it isn't read", x.line(0, 7), 0);
        x.fold(5);
        Check.due("not struck, but folded", x.line(1, 5), 0);
        Check.due("not read, either", x.line(1, 6), 0);
        Check.due("0 if it isn't read by folding", x.line(1, 7), 0);
        Check.due("inches", Check.told(SIX + FOURS + ";wrote h a m do inches 9").line(0, 4), 9);
        Doc.says(8, "NONE: 1.");
        int[] no = {-1, 8, 9, 32, LEAST, MOST};
        for (int k : no) {
            Check.refused(x, "line " + k, x.line(k, 0), -1, 1);
            Check.refused(x, "what " + k, x.line(0, k), -1, 1);
        }
        PostScripts none = Check.told(SIX + FOURS + ";hidden a");
        Check.refused(none, "no line, a hidden one is none", none.line(0, 0), -1, 1);
        none.write(0, 0, 0, true, 1);
        Check.granted(none, "a written one", none.line(0, 3), 1);
        none.undo();
        Check.refused(none, "undone", none.line(0, 3), -1, 1);
    }

    private static void doneAndStands() {
        PostScripts x = Check.told(SIX + FOURS + ";wrote h a m do inches 1;wrote h a s not inches 1");
        int[] no = {-1, 4, 32, LEAST, MOST};
        Doc.says(9, "DONE. NONE: 1.");
        Check.granted(x, "the first", x.done(0), 1);
        Check.granted(x, "the last", x.done(3), 0);
        Check.granted(x, "in doubt", x.done(1), -2);
        for (int m : no) {
            Check.refused(x, "done " + m, x.done(m), -1, 1);
        }
        Doc.says(10, "The line that STANDS; -2. NONE: 1.");
        Check.granted(x, "the first", x.stands(0), 0);
        Check.granted(x, "the last", x.stands(3), 1);
        Check.granted(x, "none", x.stands(1), -2);
        for (int m : no) {
            Check.refused(x, "stands " + m, x.stands(m), -1, 1);
        }
        PostScripts none = Check.told(SIX);
        Check.refused(none, "no matter", none.done(0), -1, 1);
        Check.refused(none, "no matter that stands", none.stands(0), -1, 1);
        PostScripts eight = Check.told(SIX + FOURS + ";wrote h a m do inches 1".repeat(8));
        Check.due("the eighth", eight.stands(0), 7);
    }

    private static void allDone() {
        Doc.says(11, "Matters that are done, as bits. NONE: 1 (no LETTER).");
        PostScripts x = Check.told(SIX + FOURS + ";wrote h a m do inches 1;wrote h a n do inches 1;wrote h a o do inches 1;wrote h a s do inches 1");
        Check.granted(x, "all", x.allDone(), 15);
        x.strike(1);
        Check.granted(x, "one is in doubt", x.allDone(), 13);
        x.write(0, 1, 2, false, 1);
        Check.granted(x, "one isn't done", x.allDone(), 9);
        x.fold(0);
        Check.granted(x, "none", x.allDone(), 0);
        Check.granted(x, "no matter", Check.told(SIX).allDone(), 0);
        PostScripts none = new PostScripts();
        Check.refused(none, "no letter", none.allDone(), -1, 1);
    }

    private static void ruler() {
        Doc.says(12, "The hand who rules most matters, the first such; -2 no hand rules any. NONE: 1 (no LETTER).");
        PostScripts x = Check.told(SIX + FOURS + ";wrote i a m not inches 1;wrote k a n do inches 1");
        Check.granted(x, "the first of two", x.ruler(), 1);
        x.write(3, 0, 2, false, 1);
        Check.granted(x, "the last rules two", x.ruler(), 3);
        x.write(1, 0, 3, true, 1);
        Check.granted(x, "both rule two", x.ruler(), 1);
        x.fold(0);
        Check.granted(x, "none rules any", x.ruler(), -2);
        PostScripts hands = Check.told(SIX + FOURS);
        Check.granted(hands, "no line", hands.ruler(), -2);
        hands.write(0, 0, 3, false, 1);
        Check.granted(hands, "the first hand", hands.ruler(), 0);
        PostScripts bare = Check.told(SIX);
        Check.granted(bare, "no hand", bare.ruler(), -2);
        PostScripts none = new PostScripts();
        Check.refused(none, "no letter", none.ruler(), -1, 1);
    }

    private static void power() {
        Doc.says(13, "The hand without whose lines (all struck) most matters would be otherwise, the first such; -2 none would, by whomever.");
        PostScripts x = Check.told(SIX + FOURS + ";wrote h a m do inches 1;wrote i b m do inches 1;wrote j c m do inches 1");
        Check.granted(x, "none would be otherwise", x.power(), -2);
        x.write(3, 0, 1, true, 1);
        Check.granted(x, "one would be in doubt", x.power(), 3);
        x.write(1, 0, 2, false, 1);
        Check.granted(x, "the first of two", x.power(), 1);
        x.write(3, 1, 3, false, 1);
        Check.granted(x, "the last has more", x.power(), 3);
        Check.due("nothing was struck", x.line(5, 5), 0);
        PostScripts own = Check.told(SIX + FOURS + ";wrote i a m do inches 1;wrote i b m do inches 1");
        Check.granted(own, "all of his lines", own.power(), 1);
        PostScripts ring = Check.told(SIX + FOURS + ";over a c;wrote h a m do inches 1;wrote i b m do inches 1;wrote j c m do inches 1");
        Check.granted(ring, "out of doubt is otherwise", ring.power(), 0);
        ring.fold(0);
        ring.fold(1);
        ring.fold(2);
        Check.granted(ring, "none is read", ring.power(), -2);
        PostScripts bare = Check.told(SIX);
        Check.granted(bare, "no hand", bare.power(), -2);
        Doc.says(13, "NONE: 1 (no LETTER).");
        PostScripts none = new PostScripts();
        Check.refused(none, "no letter", none.power(), -1, 1);
    }

    private static void led() {
        Doc.says(52, "The i-th matter, by numbers, that is in doubt. NoSuchElementException if there is none such.");
        PostScripts x = Check.told(SIX + FOURS);
        for (int i = 0; i < 4; i++) {
            Check.due("all in doubt: " + i, Check.led(x, i), i);
        }
        int[] no = {-1, 4, 32, LEAST, MOST};
        for (int i : no) {
            Check.due("led " + i, Check.led(x, i), -99);
            Check.due("no letter: led " + i, Check.led(new PostScripts(), i), -99);
        }
        x.write(0, 0, 0, true, 1);
        x.write(0, 0, 2, false, 1);
        Check.due("the first then", Check.led(x, 0), 1);
        Check.due("the second then", Check.led(x, 1), 3);
        Check.due("no third", Check.led(x, 2), -99);
        x.write(0, 0, 1, true, 1);
        x.write(0, 0, 3, true, 1);
        Check.due("none is in doubt", Check.led(x, 0), -99);
        Check.due("no matters", Check.led(Check.told(SIX), 0), -99);
    }
}
