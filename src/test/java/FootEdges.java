/** The edges of promises 38 to 40, and of KING and CHANCELLOR in Terms III. */
final class FootEdges {
    private static final int[] NO_INK = {-1, 10, 32, Integer.MIN_VALUE, Integer.MAX_VALUE};
    private static final String TEXT = "letter wet 0;place p rank 1 room 1";

    private FootEdges() {
    }

    static void run() {
        shares();
        foot();
        rests();
        rest();
    }

    private static void shares() {
        Doc.says("III", "both leave: 3 each; who writes alone has 4 and loses ink, the other one has 0; both write: 1 each.");
        PostScripts x = Check.told(TEXT);
        int[] inks = {0, 1, 4, 5, 9};
        for (int ink : inks) {
            for (int other = 0; other < 2; other++) {
                boolean ofOther = other == 1;
                Check.granted(x, "both leave", x.foot(ink, false, false, ofOther), 3);
                Check.granted(x, "both write", x.foot(ink, true, true, ofOther), 1);
                Check.granted(x, "the king alone", x.foot(ink, true, false, ofOther), ofOther ? 0 : 4 - ink);
                Check.granted(x, "the chancellor alone", x.foot(ink, false, true, ofOther), ofOther ? 4 - ink : 0);
            }
        }
    }

    private static void foot() {
        Doc.says(38, "and ink is so much (0 .. 9). -100: 1 (no LETTER); 2.");
        PostScripts x = Check.told(TEXT);
        Check.granted(x, "no ink", x.foot(0, true, false, false), 4);
        Check.granted(x, "-1 is no refusal", x.foot(5, true, false, false), -1);
        Check.granted(x, "the most ink", x.foot(9, false, true, true), -5);
        PostScripts none = new PostScripts();
        for (int ink : NO_INK) {
            Check.refused(x, "foot " + ink, x.foot(ink, false, false, false), -100, 2);
            Check.refused(none, "no letter, and " + ink, none.foot(ink, false, false, false), -100, 1);
        }
        Check.refused(none, "no letter", none.foot(0, false, false, false), -100, 1);
    }

    private static void rests() {
        Doc.says(39, "How many RESTS. NONE: 1 (no LETTER); 2.");
        PostScripts x = Check.told(TEXT);
        PostScripts none = new PostScripts();
        for (int ink = 0; ink <= 9; ink++) {
            // With ink 1 who writes alone has 3, no more than by leaving.
            Check.granted(x, "rests " + ink, x.rests(ink), ink == 0 ? 1 : 2);
        }
        for (int ink : NO_INK) {
            Check.refused(x, "rests " + ink, x.rests(ink), -1, 2);
            Check.refused(none, "no letter, and " + ink, none.rests(ink), -1, 1);
        }
        Check.refused(none, "no letter", none.rests(0), -1, 1);
    }

    private static void rest() {
        Doc.says(40, "The first (leaving ahead, the king's first): 10 if the king writes, and 1 if the chancellor does; -2. NONE: likewise.");
        PostScripts x = Check.told(TEXT);
        PostScripts none = new PostScripts();
        for (int ink = 0; ink <= 9; ink++) {
            Check.granted(x, "rest " + ink, x.rest(ink), ink == 0 ? 11 : 0);
        }
        for (int ink : NO_INK) {
            Check.refused(x, "rest " + ink, x.rest(ink), -1, 2);
            Check.refused(none, "no letter, and " + ink, none.rest(ink), -1, 1);
        }
        Check.refused(none, "no letter", none.rest(0), -1, 1);
    }
}
