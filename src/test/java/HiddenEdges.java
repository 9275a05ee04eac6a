/** The edges of promises 32 to 37, and of FITS and ASK in Terms III. */
final class HiddenEdges {
    private static final int LEAST = Integer.MIN_VALUE;
    private static final int MOST = Integer.MAX_VALUE;
    private static final String HEAD = "letter wet 0;place p rank 1 room 1;place q rank 2 room 1;hand h purse 0;matter m";

    private HiddenEdges() {
    }

    static void run() {
        behind();
        asTold();
        fits();
        fitAt();
        says();
        asking();
        ask();
        judge();
    }

    private static void same(PostScripts x, int[][] want) {
        Check.granted(x, "fits", x.fits(), want.length);
        for (int i = 0; i < want.length; i++) {
            for (int k = 0; k < want[i].length; k++) {
                Check.granted(x, "fitAt " + i + " " + k, x.fitAt(i, k), want[i][k]);
            }
        }
    }

    private static void behind() {
        Doc.says("III", "each hidden line, behind all told ones, one behind the other as told, says something of a matter (do or not), or is blank");
        same(Check.told(HEAD + ";hidden p;wrote h p m do inches 1;done m not"), new int[][] {{0}});
        same(Check.told(HEAD + ";hidden p;hidden p;done m do"), new int[][] {{0, 1}, {1, 1}, {1, -2}, {-2, 1}});
        same(Check.told(HEAD + ";hidden q;hidden p;done m do"), new int[][] {{1, 0}, {1, 1}, {1, -2}, {-2, 1}});
        same(Check.told(HEAD + ";hidden p;done m doubt"), new int[][] {{-2}});
        same(Check.told(HEAD + ";hidden p"), new int[][] {{0}, {1}, {-2}});
        same(Check.told(HEAD + ";wrote h q m do inches 1;hidden q;done m not"), new int[][] {{0}});
    }

    private static void asTold() {
        Doc.says("III", "all fillings by which each matter is as told by done (others whatever), all else as told at first");
        same(Check.told(HEAD + ";matter n;hidden p;done n do"), new int[][] {{3}});
        same(Check.told(HEAD + ";matter n;hidden p;done m doubt"), new int[][] {{2}, {3}, {-2}});
        same(Check.told(HEAD + ";matter n;hidden p;done m doubt;done n doubt"), new int[][] {{-2}});
        same(Check.told(HEAD + ";matter n;hidden p;done m do;done n do"), new int[0][]);
        PostScripts x = Check.told(HEAD + ";wrote h p m do inches 1;hidden q;done m do");
        x.strike(0);
        x.fold(0);
        x.fold(1);
        same(x, new int[][] {{1}, {-2}});
        x.fold(1);
        x.write(0, 1, 0, false, 1);
        same(x, new int[][] {{1}, {-2}});
        PostScripts y = Check.told(HEAD + ";wrote h p m do inches 1;hidden q;done m do");
        same(y, new int[][] {{1}, {-2}});
        y.write(0, 1, 0, false, 1);
        y.strike(0);
        same(y, new int[][] {{1}, {-2}});
    }

    private static void fits() {
        Doc.says(32, "FITS: how many. NONE: 1 (no LETTER).");
        PostScripts no = Check.told(HEAD + ";wrote h q m do inches 1;hidden p;done m not");
        Check.granted(no, "none", no.fits(), 0);
        PostScripts bare = Check.told(HEAD);
        Check.granted(bare, "no hidden line: one", bare.fits(), 1);
        PostScripts wrong = Check.told(HEAD + ";done m do");
        Check.granted(wrong, "no hidden line, not as told: none", wrong.fits(), 0);
        PostScripts most = Check.told("letter wet 0;place p rank 1 room 1;matter m;matter n;matter o;matter s;hidden p;hidden p;hidden p");
        Check.granted(most, "the most", most.fits(), 729);
        PostScripts blank = Check.told("letter wet 0;place p rank 1 room 1;hidden p;hidden p;hidden p");
        Check.granted(blank, "no matter: all blank", blank.fits(), 1);
        PostScripts none = new PostScripts();
        Check.refused(none, "no letter", none.fits(), -1, 1);
    }

    private static void fitAt() {
        Doc.says(33, "What the k-th hidden line says by the i-th (the first line counts most): -2 blank (behind all others), else 2 times the matter and 1 for do.");
        PostScripts x = Check.told("letter wet 0;place p rank 1 room 1;matter m;matter n;matter o;matter s;hidden p;hidden p;hidden p");
        for (int k = 0; k < 3; k++) {
            Check.granted(x, "the first " + k, x.fitAt(0, k), 0);
            Check.granted(x, "the last " + k, x.fitAt(728, k), -2);
        }
        Check.granted(x, "do of the last matter", x.fitAt(7, 2), 7);
        Check.granted(x, "blank is behind it", x.fitAt(8, 2), -2);
        Check.granted(x, "then the second line", x.fitAt(9, 1), 1);
        Check.granted(x, "then the first line", x.fitAt(81, 0), 1);
        Check.granted(x, "and the second anew", x.fitAt(81, 1), 0);
        Doc.says(33, "NONE: 1 (i, k, too).");
        int[] noFit = {-1, 729, 730, LEAST, MOST};
        for (int i : noFit) {
            Check.refused(x, "fit " + i, x.fitAt(i, 0), -1, 1);
        }
        int[] noLine = {-1, 3, 32, LEAST, MOST};
        for (int k : noLine) {
            Check.refused(x, "hidden line " + k, x.fitAt(0, k), -1, 1);
        }
        PostScripts bare = Check.told(HEAD);
        Check.refused(bare, "no hidden line", bare.fitAt(0, 0), -1, 1);
        PostScripts no = Check.told(HEAD + ";wrote h q m do inches 1;hidden p;done m not");
        Check.refused(no, "no fits", no.fitAt(0, 0), -1, 1);
        PostScripts none = new PostScripts();
        Check.refused(none, "no letter", none.fitAt(0, 0), -1, 1);
    }

    private static void says() {
        Doc.says(34, "By how many of them the k-th says something of a matter. NONE: 1.");
        PostScripts x = Check.told("letter wet 0;place p rank 1 room 1;matter m;matter n;matter o;matter s;hidden p;hidden p;hidden p");
        for (int k = 0; k < 3; k++) {
            Check.granted(x, "of the first " + k, x.says(k, 0), 162);
            Check.granted(x, "of the last " + k, x.says(k, 3), 162);
        }
        PostScripts two = Check.told(HEAD + ";matter n;hidden p;hidden q;done n do");
        // q says do of n, p whatever (5); or p says do of n, q something of m or is blank (3).
        Check.granted(two, "the first of m", two.says(0, 0), 2);
        Check.granted(two, "the first of n", two.says(0, 1), 2 + 3);
        Check.granted(two, "the second of m", two.says(1, 0), 2);
        Check.granted(two, "the second of n", two.says(1, 1), 5);
        int[] no = {-1, 4, 32, LEAST, MOST};
        for (int i : no) {
            Check.refused(x, "line " + i, x.says(i, 0), -1, 1);
            Check.refused(x, "matter " + i, x.says(0, i), -1, 1);
        }
        Check.refused(x, "line 3", x.says(3, 0), -1, 1);
        PostScripts none = Check.told(HEAD + ";wrote h q m do inches 1;hidden p;done m not");
        Check.granted(none, "no fits", none.says(0, 0), 0);
        PostScripts bare = Check.told(HEAD);
        Check.refused(bare, "no hidden line", bare.says(0, 0), -1, 1);
        PostScripts blank = Check.told("letter wet 0;place p rank 1 room 1;hidden p");
        Check.refused(blank, "no matter", blank.says(0, 0), -1, 1);
    }

    private static void asking() {
        Doc.says("III", "ASK: the hidden line by which, it being read, at most fewest FITS are left, the first such.");
        PostScripts alike = Check.told(HEAD + ";hidden p;hidden q;hidden q");
        Check.granted(alike, "the first of three", alike.ask(), 0);
        Check.granted(alike, "nine of 27", alike.askLeaves(), 9);
        // Of p, q by q above p: 3 fits by q's do and 1 by blank; by p: not 1, do 2, blank 1.
        PostScripts second = Check.told(HEAD + ";hidden q;hidden p;done m do");
        Check.granted(second, "the second", second.ask(), 1);
        Check.granted(second, "two of four", second.askLeaves(), 2);
        PostScripts not = Check.told(HEAD + ";hidden q;hidden p;done m not");
        Check.granted(not, "two of four, asked first", not.askLeaves(), 2);
        PostScripts most = Check.told("letter wet 0;place p rank 1 room 1;matter m;matter n;matter o;matter s;hidden p;hidden p;hidden p");
        Check.granted(most, "the first of the most", most.ask(), 0);
        Check.granted(most, "81 of 729", most.askLeaves(), 81);
        PostScripts third = Check.told(HEAD + ";hidden q;hidden q;hidden p;done m do");
        // q's later one do: 9; it blank, the earlier one do: 3; both blank: p's do: 1.
        Check.granted(third, "fits", third.fits(), 13);
        Check.granted(third, "the third", third.ask(), 2);
        Check.granted(third, "five of 13", third.askLeaves(), 5);
    }

    private static void ask() {
        PostScripts no = Check.told(HEAD + ";wrote h q m do inches 1;hidden p;done m not");
        PostScripts bare = Check.told(HEAD);
        PostScripts one = Check.told(HEAD + ";hidden p;done m do");
        PostScripts none = new PostScripts();
        Doc.says(35, "ASK; -2 no FITS, no hidden line. NONE: 1 (no LETTER).");
        Check.granted(no, "no fits", no.ask(), -2);
        Check.granted(bare, "no hidden line", bare.ask(), -2);
        Check.granted(one, "one fit", one.ask(), 0);
        Check.refused(none, "no letter", none.ask(), -1, 1);
        Doc.says(36, "How many are left at most then; -2 likewise. NONE: 1 (no LETTER).");
        Check.granted(no, "no fits", no.askLeaves(), -2);
        Check.granted(bare, "no hidden line", bare.askLeaves(), -2);
        Check.granted(one, "one fit", one.askLeaves(), 1);
        Check.refused(none, "no letter", none.askLeaves(), -1, 1);
    }

    private static void judge() {
        Doc.says(37, "The first matter told by done that isn't so by the told lines alone; -2.");
        String four = HEAD + ";matter n;matter o;matter s";
        String[] dones = {"", ";done m doubt", ";done m do", ";done s doubt", ";done s not", ";done s not;done m do", ";done n doubt;done s do;done o not"};
        int[] want = {-2, -2, 0, -2, 3, 0, 2};
        for (int i = 0; i < dones.length; i++) {
            PostScripts x = Check.told(four + dones[i]);
            Check.granted(x, "judge of <" + dones[i] + ">", x.judge(), want[i]);
        }
        PostScripts lines = Check.told(four + ";wrote h p m do inches 1;wrote h q s not inches 1;done m do;done s not");
        Check.granted(lines, "do and not, as told", lines.judge(), -2);
        lines.strike(0);
        lines.fold(1);
        Check.granted(lines, "by the told lines", lines.judge(), -2);
        PostScripts doubt = Check.told(four + ";wrote h p m do inches 1;done m doubt");
        Check.granted(doubt, "done, but told in doubt", doubt.judge(), 0);
        PostScripts hidden = Check.told(four + ";hidden p;done m do");
        Check.granted(hidden, "hidden ones don't count", hidden.judge(), 0);
        hidden.write(0, 0, 0, true, 1);
        Check.granted(hidden, "nor do written ones", hidden.judge(), 0);
        Doc.says(37, "NONE: 1 (no LETTER).");
        PostScripts none = new PostScripts();
        Check.refused(none, "no letter", none.judge(), -1, 1);
    }
}
