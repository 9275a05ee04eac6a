/** The edges of promises 46 to 51, and of ACTS, UNDO and IMAGES in Terms III. */
final class ActEdges {
    private static final int LEAST = Integer.MIN_VALUE;
    private static final int MOST = Integer.MAX_VALUE;
    private static final String HEAD = "letter wet 0;place p rank 1 room 9;place q rank 2 room 1;hand h purse 0;hand i purse 0;matter m;matter n";
    private static final String TEXT = HEAD + ";wrote h p m do inches 2";

    private ActEdges() {
    }

    static void run() {
        write();
        writeRefused();
        writeRoom();
        strike();
        fold();
        kept();
        undo();
        image();
        back();
        backStays();
    }

    private static void write() {
        Doc.says(46, "WRITE: which line it is.");
        PostScripts x = Check.told(HEAD);
        Check.granted(x, "the first", x.write(0, 0, 0, true, 1), 0);
        Check.granted(x, "the next", x.write(1, 1, 1, false, 1), 1);
        int[] want = {1, 1, 1, 0, 1, 0, 1, 0};
        for (int what = 0; what < want.length; what++) {
            Check.due("line " + what, x.line(1, what), want[what]);
        }
        for (int k = 2; k < 8; k++) {
            Check.granted(x, "line " + k, x.write(0, 0, 0, true, 1), k);
        }
        Check.granted(Check.told(HEAD), "nine inches", Check.told(HEAD).write(0, 0, 0, true, 9), 0);
    }

    private static void refusedWrite(PostScripts x, String what, int[] of, int trouble) {
        String before = Check.look(x);
        Check.refused(x, what, x.write(of[0], of[1], of[2], true, of[3]), -1, trouble);
        Check.same(what, before, Check.look(x));
    }

    private static void writeRefused() {
        Doc.says(46, "NONE: 1; 2 (inches 1 .. 9); 5 (folded)");
        PostScripts x = Check.told(TEXT);
        x.fold(1);
        int[] no = {-1, 2, 32, LEAST, MOST};
        for (int i : no) {
            refusedWrite(x, "hand " + i, new int[] {i, 0, 0, 1}, 1);
            refusedWrite(x, "place " + i, new int[] {0, i, 0, 1}, 1);
            refusedWrite(x, "matter " + i, new int[] {0, 0, i, 1}, 1);
            refusedWrite(x, "hand and inches " + i, new int[] {i, 1, 0, 0}, 1);
            refusedWrite(x, "matter and folded " + i, new int[] {0, 1, i, 1}, 1);
        }
        int[] inches = {0, -1, 10, LEAST, MOST};
        for (int n : inches) {
            refusedWrite(x, "inches " + n, new int[] {0, 0, 0, n}, 2);
            refusedWrite(x, "folded and inches " + n, new int[] {0, 1, 0, n}, 2);
        }
        refusedWrite(x, "folded", new int[] {0, 1, 0, 1}, 5);
        refusedWrite(x, "folded, and no room", new int[] {0, 1, 0, 9}, 5);
        x.fold(1);
        Check.granted(x, "unfolded", x.write(0, 1, 0, true, 1), 1);
        PostScripts bare = Check.told("letter wet 0;place p rank 1 room 9;matter m");
        refusedWrite(bare, "no hand", new int[] {0, 0, 0, 1}, 1);
    }

    private static void writeRoom() {
        Doc.says(46, "3 (no ROOM for it, or eight lines lie)");
        PostScripts x = Check.told(TEXT);
        refusedWrite(x, "an inch too many", new int[] {0, 0, 0, 8}, 3);
        refusedWrite(x, "an inch too many at the other one", new int[] {0, 1, 0, 2}, 3);
        Check.granted(x, "just the room", x.write(0, 0, 0, true, 7), 1);
        refusedWrite(x, "no room left", new int[] {0, 0, 0, 1}, 3);
        x.strike(1);
        refusedWrite(x, "a struck line keeps its inches", new int[] {0, 0, 0, 1}, 3);
        PostScripts eight = Check.told(HEAD + ";wrote h p m do inches 1".repeat(7));
        Check.granted(eight, "the eighth", eight.write(0, 0, 0, true, 1), 7);
        refusedWrite(eight, "eight lie", new int[] {0, 0, 0, 1}, 3);
        refusedWrite(eight, "eight lie, at another place", new int[] {0, 1, 0, 1}, 3);
        eight.strike(0);
        refusedWrite(eight, "struck ones lie", new int[] {0, 1, 0, 1}, 3);
        eight.fold(1);
        refusedWrite(eight, "folded ahead of eight", new int[] {0, 1, 0, 1}, 5);
        eight.undo();
        eight.undo();
        eight.undo();
        Check.granted(eight, "seven lie again", eight.write(0, 1, 0, true, 1), 7);
    }

    private static void strike() {
        Doc.says(47, "STRIKE: true; false: 1; 5 (it is).");
        PostScripts x = Check.told(HEAD + ";wrote h p m do inches 1".repeat(8));
        int[] no = {-1, 8, 32, LEAST, MOST};
        for (int k : no) {
            String before = Check.look(x);
            Check.refused(x, "strike " + k, x.strike(k), 1);
            Check.same("strike " + k, before, Check.look(x));
        }
        Check.granted(x, "the last", x.strike(7));
        Check.granted(x, "the first", x.strike(0));
        String before = Check.look(x);
        Check.refused(x, "it is", x.strike(7), 5);
        Check.refused(x, "it is, too", x.strike(0), 5);
        Check.same("it is", before, Check.look(x));
        x.fold(0);
        Check.granted(x, "at a folded place", x.strike(1));
        PostScripts bare = Check.told(HEAD);
        Check.refused(bare, "no line", bare.strike(0), 1);
        bare.write(0, 0, 0, true, 1);
        Check.granted(bare, "a written one", bare.strike(0));
        bare.undo();
        Check.granted(bare, "undone and struck again", bare.strike(0));
    }

    private static void fold() {
        Doc.says(48, "FOLD: 1 if it is folded then, else 0. NONE: 1.");
        PostScripts x = Check.told(TEXT);
        Check.granted(x, "fold", x.fold(1), 1);
        Check.due("the other one isn't", x.place(0, 5), 0);
        Check.granted(x, "unfold", x.fold(1), 0);
        Check.granted(x, "fold again", x.fold(1), 1);
        int[] no = {-1, 2, 32, LEAST, MOST};
        for (int p : no) {
            String before = Check.look(x);
            Check.refused(x, "fold " + p, x.fold(p), -1, 1);
            Check.same("fold " + p, before, Check.look(x));
        }
        PostScripts six = Check.told("letter wet 0;place a rank 1 room 9;place b rank 2 room 9;place c rank 3 room 9;place d rank 4 room 9;"
                + "place e rank 5 room 9;place f rank 6 room 1");
        for (int p = 0; p < 6; p++) {
            Check.granted(six, "fold " + p, six.fold(p), 1);
        }
        Check.due("all are folded", six.place(5, 5), 1);
    }

    private static void kept() {
        Doc.says("III", "UNDO: the latest (16 are kept).");
        PostScripts x = Check.told(TEXT);
        x.strike(0);
        for (int i = 0; i < 15; i++) {
            x.fold(0);
        }
        Check.due("sixteen", x.size(9), 16);
        for (int i = 0; i < 16; i++) {
            Check.granted(x, "undo " + i, x.undo());
        }
        Check.refused(x, "the seventeenth", x.undo(), 6);
        Check.same("all is as told", Check.look(Check.told(TEXT)), Check.look(x));
        PostScripts y = Check.told(TEXT);
        y.strike(0);
        for (int i = 0; i < 16; i++) {
            y.fold(1);
        }
        Check.due("sixteen of seventeen", y.size(9), 16);
        y.undo();
        y.write(1, 0, 1, true, 3);
        Check.due("sixteen again", y.size(9), 16);
        for (int i = 0; i < 16; i++) {
            Check.granted(y, "undo " + i, y.undo());
        }
        Check.refused(y, "the first is kept no more", y.undo(), 6);
        Check.due("it stays struck", y.line(0, 5), 1);
        Check.due("the written one is undone", y.size(5), 1);
        Check.due("all folding is undone", y.place(1, 5), 0);
    }

    private static void undo() {
        Doc.says(49, "UNDO: true; false: 6.");
        PostScripts x = Check.told(TEXT);
        Check.refused(x, "nothing yet", x.undo(), 6);
        x.fold(2);
        x.strike(1);
        x.write(0, 0, 0, true, 0);
        Check.refused(x, "refused ones are no acts", x.undo(), 6);
        x.fold(0);
        x.fold(0);
        Check.granted(x, "unfolding is an act", x.undo());
        Check.due("folded", x.place(0, 5), 1);
        Check.granted(x, "folding is one", x.undo());
        Check.due("unfolded", x.place(0, 5), 0);
        x.write(1, 1, 1, false, 1);
        x.strike(1);
        Check.granted(x, "striking is one", x.undo());
        Check.due("not struck", x.line(1, 5), 0);
        Check.granted(x, "writing is one", x.undo());
        Check.same("all is as told", Check.look(Check.told(TEXT)), Check.look(x));
        x.image();
        x.done(0);
        Check.refused(x, "other calls are no acts", x.undo(), 6);
        PostScripts none = new PostScripts();
        Check.refused(none, "no letter", none.undo(), 6);
    }

    private static void image() {
        Doc.says(50, "An IMAGE: its number. NONE: 1 (no LETTER); 3.");
        PostScripts x = Check.told(TEXT);
        for (int i = 0; i < 3; i++) {
            Check.granted(x, "image " + i, x.image(), i);
        }
        String before = Check.look(x);
        Check.refused(x, "no room", x.image(), -1, 3);
        Check.same("no room", before, Check.look(x));
        x.back(0);
        Check.refused(x, "they stay", x.image(), -1, 3);
        PostScripts none = new PostScripts();
        Check.refused(none, "no letter", none.image(), -1, 1);
        Doc.says("III", "IMAGES: up to 3; gone back to one, nothing can be undone.");
        PostScripts y = Check.told(TEXT);
        y.fold(0);
        y.image();
        Check.due("an image leaves acts", y.size(9), 1);
        y.fold(1);
        y.back(0);
        Check.due("nothing can be undone", y.size(9), 0);
        Check.refused(y, "nothing", y.undo(), 6);
        Check.due("the fold ahead of it stays", y.place(0, 5), 1);
        y.fold(1);
        Check.granted(y, "an act behind it can", y.undo());
        Check.refused(y, "but no other", y.undo(), 6);
    }

    private static void back() {
        Doc.says(51, "true; false: 1.");
        PostScripts x = Check.told(TEXT);
        Check.refused(x, "none yet", x.back(0), 1);
        x.image();
        x.fold(0);
        int[] no = {-1, 1, 3, 32, LEAST, MOST};
        for (int i : no) {
            String before = Check.look(x);
            Check.refused(x, "back " + i, x.back(i), 1);
            Check.same("back " + i, before, Check.look(x));
        }
        Check.granted(x, "back", x.back(0));
        PostScripts none = new PostScripts();
        Check.refused(none, "no letter", none.back(0), 1);
    }

    /** What an image is of: not how many acts, images and bytes there are. */
    private static String page(PostScripts x) {
        String seen = Check.look(x);
        return seen.substring(seen.indexOf(" p")) + x.size(5);
    }

    private static void backStays() {
        Doc.says(51, "All is as by an IMAGE (all IMAGES stay)");
        PostScripts x = Check.told(TEXT);
        String first = page(x);
        x.image();
        x.write(1, 1, 1, false, 1);
        x.write(1, 0, 0, false, 3);
        x.strike(0);
        x.fold(1);
        String second = page(x);
        x.image();
        x.undo();
        x.undo();
        x.undo();
        x.write(0, 0, 1, true, 1);
        x.strike(2);
        String third = page(x);
        x.image();
        String[] pages = {first, second, third};
        int[] order = {0, 2, 1, 1, 2, 0, 1, 0};
        for (int i : order) {
            Check.granted(x, "back " + i, x.back(i));
            Check.same("back " + i, pages[i], page(x));
            Check.due("all stay", x.size(10), 3);
            if (x.size(5) < 8) {
                x.write(0, 0, 0, true, 1);
            }
            x.strike(0);
            x.fold(0);
        }
    }
}
