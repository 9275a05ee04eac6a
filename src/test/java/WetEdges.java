/** The edges of promises 41 to 45, and of WET and THUMBS in Terms III. */
final class WetEdges {
    private static final int LEAST = Integer.MIN_VALUE;
    private static final int MOST = Integer.MAX_VALUE;
    private static final int[] NO_MATTER = {-1, 4, 32, LEAST, MOST};
    private static final String REST = ";place p rank 1 room 9;place q rank 2 room 9;hand h purse 0;matter m;matter n;matter o;matter s";
    private static final String THREE = REST + ";wrote h p m do inches 1;wrote h q m not inches 1;wrote h p s do inches 1";

    private WetEdges() {
    }

    static void run() {
        wet();
        odds();
        standOdds();
        mean();
        draws();
        seeds();
        thumbs();
        smudged();
    }

    private static void odds(PostScripts x, int m, long upper, long lower) {
        Check.granted(x, "odds " + m + " upper", x.odds(m, false), upper);
        Check.granted(x, "odds " + m + " lower", x.odds(m, true), lower);
    }

    private static void standOdds(PostScripts x, int k, long upper, long lower) {
        Check.granted(x, "standOdds " + k + " upper", x.standOdds(k, false), upper);
        Check.granted(x, "standOdds " + k + " lower", x.standOdds(k, true), lower);
    }

    private static void mean(PostScripts x, long upper, long lower) {
        Check.granted(x, "mean upper", x.mean(false), upper);
        Check.granted(x, "mean lower", x.mean(true), lower);
    }

    private static PostScripts letter(int wet, String rest) {
        return Check.told("letter wet " + wet + rest);
    }

    private static void wet() {
        Doc.says("III", "WET: each READ line by itself, as likely as told, is smudged: as if struck.");
        int[] wets = {0, 1, 50, 99, 100};
        long[] upper = {1, 99, 1, 1, 0};
        long[] lower = {1, 100, 2, 100, 1};
        for (int i = 0; i < wets.length; i++) {
            odds(letter(wets[i], THREE), 3, upper[i], lower[i]);
        }
        PostScripts x = letter(50, THREE);
        odds(x, 0, 1, 4);
        x.strike(1);
        odds(x, 0, 1, 2);
        x.fold(0);
        odds(x, 0, 0, 1);
    }

    private static void odds() {
        Doc.says(41, "How likely a matter is done with WET, the upper WHOLE or the lower, in lowest terms (0 by 1).");
        PostScripts dry = letter(0, THREE);
        odds(dry, 0, 0, 1);
        odds(dry, 3, 1, 1);
        PostScripts soaked = letter(100, THREE);
        odds(soaked, 0, 0, 1);
        odds(soaked, 3, 0, 1);
        PostScripts bare = letter(50, REST);
        odds(bare, 0, 0, 1);
        PostScripts eight = letter(33, REST + ";wrote h p s do inches 1".repeat(8));
        // One less 33 to the 8th by 100 to the 8th.
        odds(eight, 3, 10000000000000000L - 1406408618241L, 10000000000000000L);
        PostScripts halves = letter(50, REST + ";wrote h p s do inches 1".repeat(8));
        odds(halves, 3, 255, 256);
        Doc.says(41, "-1: 1.");
        for (int m : NO_MATTER) {
            Check.refused(dry, "odds " + m, dry.odds(m, false), -1, 1);
            Check.refused(dry, "odds " + m, dry.odds(m, true), -1, 1);
        }
    }

    private static void standOdds() {
        Doc.says(42, "How likely a line STANDS then, likewise.");
        PostScripts x = letter(20, THREE);
        standOdds(x, 0, 4, 25);
        standOdds(x, 1, 4, 5);
        x.strike(0);
        standOdds(x, 0, 0, 1);
        x.fold(1);
        standOdds(x, 1, 0, 1);
        standOdds(x, 2, 4, 5);
        standOdds(letter(0, THREE), 1, 1, 1);
        standOdds(letter(0, THREE), 0, 0, 1);
        standOdds(letter(100, THREE), 1, 0, 1);
        PostScripts eight = letter(50, REST + ";wrote h p s do inches 1".repeat(8));
        standOdds(eight, 0, 1, 256);
        standOdds(eight, 7, 1, 2);
        Doc.says(42, "-1: 1.");
        int[] no = {-1, 3, 8, 32, LEAST, MOST};
        for (int k : no) {
            Check.refused(x, "standOdds " + k, x.standOdds(k, false), -1, 1);
            Check.refused(x, "standOdds " + k, x.standOdds(k, true), -1, 1);
        }
    }

    private static void mean() {
        Doc.says(43, "The mean of how many matters are done then, likewise.");
        String all = REST + ";wrote h p m do inches 1;wrote h p n do inches 1;wrote h p o do inches 1;wrote h p s do inches 1";
        mean(letter(0, all), 4, 1);
        mean(letter(100, all), 0, 1);
        mean(letter(50, all), 2, 1);
        mean(letter(99, all), 1, 25);
        mean(letter(50, REST), 0, 1);
        mean(Check.told("letter wet 50;place p rank 1 room 1"), 0, 1);
        mean(letter(50, THREE), 3, 4);
        Doc.says(43, "-1: 1 (no LETTER).");
        PostScripts none = new PostScripts();
        Check.refused(none, "no letter", none.mean(false), -1, 1);
        Check.refused(none, "no letter, lower", none.mean(true), -1, 1);
    }

    private static void draws() {
        Doc.says("III", "each time a DRAW mod 100: below wet a line is smudged");
        // By the seed 65536 each draw is 65536 again: 36 of a hundred, and line 1 of three.
        Check.due("36 isn't below 36", letter(36, THREE).smudged(65536, 60), 0);
        Check.due("36 is below 37", letter(37, THREE).smudged(65536, 1), 1);
        Check.due("nothing is below 0", letter(0, THREE).smudged(7, 60), 0);
        Check.due("all is below 100", letter(100, THREE).smudged(7, 1), 1);
        Doc.says("III", "a DRAW mod how many lines there are: that one, if it isn't yet");
        PostScripts x = letter(37, THREE);
        Check.due("that one", x.thumbs(0, 65536, 1), 1);
        Check.due("the others aren't", x.thumbs(3, 65536, 60), 1);
        Check.due("it is already", x.smudged(65536, 60), 1);
        x.strike(0);
        Check.due("struck ones are lines", x.thumbs(0, 65536, 1), -2);
        x.strike(1);
        Check.due("a struck one is smudged", x.smudged(65536, 1), 1);
        x.fold(0);
        x.fold(1);
        Check.due("folded ones are lines", x.smudged(65536, 1), 1);
        Check.due("no line", letter(100, REST).smudged(65536, 60), 0);
        Check.due("the only line", letter(100, REST + ";wrote h p m do inches 1").thumbs(0, 7, 1), -2);
    }

    private static void seeds() {
        Doc.says("III", "(SEED becomes (75 times SEED and 74) mod 65,537)");
        // By 0: 74; 5624, and 28652 mod 3 is 2; 51790; 17641, and 12409 mod 3 is 1.
        PostScripts x = letter(91, THREE);
        Check.due("74 is below 91: 5624 mod 3", x.thumbs(3, 0, 1), -2);
        PostScripts y = letter(74, THREE);
        int[] smudged = {0, 0, 1, 1, 2};
        for (int n = 0; n < smudged.length; n++) {
            Check.due("by 0, times " + n, y.smudged(0, n), smudged[n]);
        }
        Check.due("74 isn't below 74", y.smudged(0, 1), 0);
        Check.due("24 is: line 2", y.thumbs(3, 0, 2), -2);
        Check.due("by 873: 65549 mod 65537 is 12", letter(13, THREE).smudged(873, 1), 1);
        Check.due("12 isn't below 12", letter(12, THREE).smudged(873, 1), 0);
    }

    private static void thumbs() {
        Doc.says(44, "DONE behind n times (0 .. 60) of THUMBS by a SEED (0 .. 65,536).");
        PostScripts x = letter(100, THREE);
        Check.granted(x, "no time", x.thumbs(0, 0, 0), 0);
        Check.granted(x, "the most times", x.thumbs(0, 0, 60), -2);
        Check.granted(x, "the highest seed", x.thumbs(0, 65536, 60), 1);
        Check.granted(x, "nothing is struck", x.done(0), 0);
        Check.due("nor an act", x.size(9), 0);
        Doc.says(44, "NONE: 1; 2.");
        for (int m : NO_MATTER) {
            Check.refused(x, "matter " + m, x.thumbs(m, 0, 0), -1, 1);
            Check.refused(x, "matter " + m + " and numbers", x.thumbs(m, -1, 61), -1, 1);
        }
        int[] seeds = {-1, 65537, LEAST, MOST};
        for (int seed : seeds) {
            Check.refused(x, "seed " + seed, x.thumbs(0, seed, 0), -1, 2);
        }
        int[] times = {-1, 61, LEAST, MOST};
        for (int n : times) {
            Check.refused(x, "times " + n, x.thumbs(0, 0, n), -1, 2);
        }
    }

    private static void smudged() {
        Doc.says(45, "How many lines are smudged then. NONE: 1 (no LETTER); 2.");
        PostScripts x = letter(100, THREE);
        Check.granted(x, "no time", x.smudged(0, 0), 0);
        Check.granted(x, "once", x.smudged(0, 1), 1);
        Check.granted(x, "the most times: all", x.smudged(0, 60), 3);
        Check.granted(x, "the highest seed", x.smudged(65536, 60), 1);
        PostScripts none = new PostScripts();
        int[] seeds = {-1, 65537, LEAST, MOST};
        for (int seed : seeds) {
            Check.refused(x, "seed " + seed, x.smudged(seed, 0), -1, 2);
            Check.refused(none, "no letter, seed " + seed, none.smudged(seed, 0), -1, 1);
        }
        int[] times = {-1, 61, LEAST, MOST};
        for (int n : times) {
            Check.refused(x, "times " + n, x.smudged(0, n), -1, 2);
            Check.refused(none, "no letter, times " + n, none.smudged(0, n), -1, 1);
        }
        Check.refused(none, "no letter", none.smudged(0, 0), -1, 1);
    }
}
