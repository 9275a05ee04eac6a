/** Promises 6 to 13 and 52: places, hands, lines, and what stands now. */
public final class NowTest {
    private static final String TEXT = "letter wet 50;place a rank 1 room 9;place b rank 2 room 9;place c rank 3 room 2;"
            + "hand h purse 9;hand i purse 8;hand j purse 7;matter m;matter n;matter o;"
            + "wrote h a m do inches 1;wrote i b m not inches 2;wrote h b n do inches 1;wrote i b n not inches 1;wrote h c n do inches 2";

    public static void main(String[] args) {
        asTold();
        foldedAndStruck();
        refusals();
        rings();
        nobody();
        more();
        Check.end("NowTest");
    }

    private static void asTold() {
        PostScripts x = Check.told(TEXT);
        int[][] places = {{1, 9, 8, 0, 1, 0}, {2, 9, 5, 1, 14, 0}, {3, 2, 0, 3, 16, 0}};
        int[][] hands = {{9, 21, 2}, {8, 10, 1}, {7, 0, 0}};
        int[][] lines = {{0, 0, 0, 1, 1, 0, 1, 2}, {1, 1, 0, 0, 2, 0, 1, 0}, {0, 1, 1, 1, 1, 0, 1, 24}, {1, 1, 1, 0, 1, 0, 1, 16}, {0, 2, 1, 1, 2, 0, 1, 0}};
        for (int p = 0; p < places.length; p++) {
            for (int what = 0; what < 6; what++) {
                Check.due("place " + p + " " + what, x.place(p, what), places[p][what]);
            }
        }
        for (int h = 0; h < hands.length; h++) {
            for (int what = 0; what < 3; what++) {
                Check.due("hand " + h + " " + what, x.hand(h, what), hands[h][what]);
            }
        }
        for (int k = 0; k < lines.length; k++) {
            for (int what = 0; what < 8; what++) {
                Check.due("line " + k + " " + what, x.line(k, what), lines[k][what]);
            }
        }
        Check.due("done m", x.done(0), 0);
        Check.due("done n", x.done(1), 1);
        Check.due("done o", x.done(2), -2);
        Check.due("stands m", x.stands(0), 1);
        Check.due("stands n", x.stands(1), 4);
        Check.due("stands o", x.stands(2), -2);
        Check.due("allDone", x.allDone(), 2);
        Check.due("ruler, the first of two", x.ruler(), 0);
        Check.due("power, the first of two", x.power(), 0);
        Check.due("power leaves all", x.allDone(), 2);
        Check.due("led 0", Check.led(x, 0), 2);
        Check.due("led 1", Check.led(x, 1), -99);
        Check.due("led -1", Check.led(x, -1), -99);
    }

    private static void foldedAndStruck() {
        PostScripts x = Check.told(TEXT);
        x.fold(2);
        Check.due("folded", x.place(2, 5), 1);
        Check.due("folded room", x.place(2, 2), 0);
        Check.due("folded outranks", x.place(2, 3), 3);
        Check.due("line isn't read", x.line(4, 6), 0);
        Check.due("line isn't struck", x.line(4, 5), 0);
        Check.due("nothing beats what isn't read", x.line(4, 7), 0);
        Check.due("it beats nothing", x.line(3, 7), 0);
        Check.due("stands then", x.stands(1), 3);
        Check.due("done then", x.done(1), 0);
        Check.due("allDone then", x.allDone(), 0);
        Check.due("ruler then", x.ruler(), 1);
        Check.due("power then", x.power(), 1);
        Check.due("hand then", x.hand(1, 2), 3);
        x.strike(1);
        Check.due("struck", x.line(1, 5), 1);
        Check.due("struck isn't read", x.line(1, 6), 0);
        Check.due("struck beats nothing", x.line(0, 7), 0);
        Check.due("struck takes room", x.place(1, 2), 5);
        Check.due("struck is a line of the place", x.place(1, 4), 14);
        Check.due("struck is a line of the hand", x.hand(1, 1), 10);
        Check.due("done behind striking", x.done(0), 1);
        Check.due("ruler behind striking", x.ruler(), 0);
        x.strike(0);
        Check.due("none is left", x.stands(0), -2);
        Check.due("led 0", Check.led(x, 0), 0);
        Check.due("led 1", Check.led(x, 1), 2);
        Check.due("led 2", Check.led(x, 2), -99);
    }

    private static void refusals() {
        PostScripts x = Check.told(TEXT);
        Check.refused(x, "place -1", x.place(-1, 0), -1, 1);
        Check.refused(x, "place 3", x.place(3, 0), -1, 1);
        Check.refused(x, "place what 6", x.place(0, 6), -1, 1);
        Check.refused(x, "place what -1", x.place(0, -1), -1, 1);
        Check.refused(x, "hand -1", x.hand(-1, 0), -1, 1);
        Check.refused(x, "hand 3", x.hand(3, 0), -1, 1);
        Check.refused(x, "hand what 3", x.hand(0, 3), -1, 1);
        Check.refused(x, "hand what -1", x.hand(0, -1), -1, 1);
        Check.refused(x, "line -1", x.line(-1, 0), -1, 1);
        Check.refused(x, "line 5", x.line(5, 0), -1, 1);
        Check.refused(x, "line what 8", x.line(0, 8), -1, 1);
        Check.refused(x, "line what -1", x.line(0, -1), -1, 1);
        Check.refused(x, "done -1", x.done(-1), -1, 1);
        Check.refused(x, "done 3", x.done(3), -1, 1);
        Check.refused(x, "stands 3", x.stands(3), -1, 1);
        Check.refused(x, "done", x.done(2), -2, 0);
        PostScripts y = new PostScripts();
        Check.refused(y, "no letter: allDone", y.allDone(), -1, 1);
        Check.refused(y, "no letter: ruler", y.ruler(), -1, 1);
        Check.refused(y, "no letter: power", y.power(), -1, 1);
    }

    private static void rings() {
        PostScripts x = Check.told("letter wet 0;place a rank 1 room 9;place b rank 2 room 9;place c rank 3 room 9;over a c;"
                + "hand h purse 0;hand i purse 0;matter m;matter n;"
                + "wrote h a m do inches 1;wrote i b m do inches 1;wrote i c m do inches 1;wrote i c n do inches 1;wrote h a n not inches 1");
        Check.due("over goes ahead of rank", x.done(1), 0);
        Check.due("all are beaten", x.stands(0), -2);
        Check.due("in doubt", x.done(0), -2);
        Check.due("a is beaten by b", x.line(0, 7), 2);
        Check.due("b is beaten by c", x.line(1, 7), 4);
        Check.due("c is beaten by a", x.line(2, 7), 1);
        Check.due("who would turn most", x.power(), 0);
        Check.due("who rules", x.ruler(), 0);
        x.strike(4);
        Check.due("who rules then", x.ruler(), 1);
        Check.due("who would turn most then", x.power(), 1);
    }

    private static void more() {
        PostScripts x = Check.told("letter wet 0;place a rank 1 room 9;hand h purse 0;hand i purse 0;matter m;matter n;matter o;matter s;"
                + "wrote h a m do inches 1;wrote i a o do inches 1;wrote i a s do inches 1");
        Check.due("first and last are done", x.allDone(), 13);
        Check.due("who rules more", x.ruler(), 1);
        Check.due("without whom more", x.power(), 1);
        Check.due("in doubt", Check.led(x, 0), 1);
    }

    private static void nobody() {
        PostScripts x = Check.told("letter wet 0;place a rank 1 room 9;hand h purse 0;hand i purse 0;matter m;"
                + "wrote h a m do inches 1;wrote i a m do inches 1");
        Check.due("the later one rules", x.ruler(), 1);
        Check.due("none is missed", x.power(), -2);
        x.fold(0);
        Check.due("none rules", x.ruler(), -2);
        Check.due("none has power", x.power(), -2);
        Check.due("none is done", x.allDone(), 0);
    }
}
