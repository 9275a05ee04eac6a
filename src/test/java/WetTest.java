/** Promises 41 to 45: wet thumbs by chance and by draws. */
public final class WetTest {
    private static final String REST = ";place p rank 1 room 9;place q rank 2 room 9;hand h purse 0;matter m;matter n";
    private static final String THREE = REST + ";wrote h p m do inches 1;wrote h q m not inches 1;wrote h p n do inches 1";

    public static void main(String[] args) {
        chances();
        edges();
        large();
        draws();
        refusals();
        Check.end("WetTest");
    }

    private static void odds(PostScripts x, int m, long upper, long lower) {
        Check.due("odds " + m + " upper", x.odds(m, false), upper);
        Check.due("odds " + m + " lower", x.odds(m, true), lower);
    }

    private static void standOdds(PostScripts x, int k, long upper, long lower) {
        Check.due("standOdds " + k + " upper", x.standOdds(k, false), upper);
        Check.due("standOdds " + k + " lower", x.standOdds(k, true), lower);
    }

    private static void mean(PostScripts x, long upper, long lower) {
        Check.due("mean upper", x.mean(false), upper);
        Check.due("mean lower", x.mean(true), lower);
    }

    private static void chances() {
        PostScripts x = Check.told("letter wet 50" + THREE);
        odds(x, 0, 1, 4);
        odds(x, 1, 1, 2);
        standOdds(x, 0, 1, 4);
        standOdds(x, 1, 1, 2);
        standOdds(x, 2, 1, 2);
        mean(x, 3, 4);
        x.strike(1);
        odds(x, 0, 1, 2);
        standOdds(x, 1, 0, 1);
        mean(x, 1, 1);
        x.fold(0);
        odds(x, 0, 0, 1);
        mean(x, 0, 1);
        PostScripts y = Check.told("letter wet 20" + THREE);
        odds(y, 0, 4, 25);
        odds(y, 1, 4, 5);
        mean(y, 24, 25);
        PostScripts ring = Check.told("letter wet 10;place a rank 1 room 9;place b rank 2 room 9;place c rank 3 room 9;over a c;hand h purse 0;matter m;"
                + "wrote h a m do inches 1;wrote h b m not inches 1;wrote h c m not inches 1");
        // a stands if b is smudged and a isn't: 9 by 10 times 1 by 10, c whatever.
        odds(ring, 0, 9, 100);
        standOdds(ring, 0, 9, 100);
    }

    private static void edges() {
        PostScripts dry = Check.told("letter wet 0" + THREE);
        odds(dry, 0, 0, 1);
        odds(dry, 1, 1, 1);
        standOdds(dry, 1, 1, 1);
        mean(dry, 1, 1);
        PostScripts wet = Check.told("letter wet 100" + THREE);
        odds(wet, 0, 0, 1);
        odds(wet, 1, 0, 1);
        standOdds(wet, 1, 0, 1);
        mean(wet, 0, 1);
        PostScripts none = Check.told("letter wet 50" + REST);
        odds(none, 0, 0, 1);
        mean(none, 0, 1);
    }

    private static void large() {
        StringBuilder text = new StringBuilder("letter wet 33" + REST);
        for (int i = 0; i < 8; i++) {
            text.append(";wrote h p m do inches 1");
        }
        PostScripts x = Check.told(text.toString());
        odds(x, 0, 9998593591381759L, 10000000000000000L);
        standOdds(x, 7, 67, 100);
        // 67 by 100, and the seven behind it smudged: 67 times 33 to the 7th.
        standOdds(x, 0, 67L * 42618442977L, 10000000000000000L);
        mean(x, 9998593591381759L, 10000000000000000L);
        StringBuilder four = new StringBuilder("letter wet 1;place p rank 1 room 9;hand h purse 0;matter a;matter b;matter c;matter d");
        for (int i = 0; i < 8; i++) {
            four.append(";wrote h p ").append((char) ('a' + i / 2)).append(" do inches 1");
        }
        mean(Check.told(four.toString()), 9999, 2500);
    }

    private static void draws() {
        PostScripts x = Check.told("letter wet 50" + REST + ";wrote h p m do inches 1;wrote h q m not inches 1");
        // By 0: 74; 5624, then 28652 smudges line 0; 51790; 17641, then 12409 smudges line 1.
        int[] smudged = {0, 0, 1, 1, 2, 2};
        int[] done = {0, 0, 0, 0, -2, -2};
        for (int n = 0; n < smudged.length; n++) {
            Check.due("smudged " + n, x.smudged(0, n), smudged[n]);
            Check.due("thumbs " + n, x.thumbs(0, 0, n), done[n]);
        }
        Check.due("nothing is struck by it", x.done(0), 0);
        // By 1: 149, then 11249 smudges line 1.
        Check.due("smudged by 1", x.smudged(1, 1), 1);
        Check.due("thumbs by 1", x.thumbs(0, 1, 1), 1);
        x.strike(1);
        Check.due("a struck one can be smudged", x.smudged(1, 1), 1);
        Check.due("of those that are read", x.thumbs(0, 1, 1), 1);
        x.undo();
        x.fold(1);
        Check.due("a folded one, too", x.smudged(1, 1), 1);
        Check.due("the last seed", x.smudged(65536, 60), smudgedBy(65536, 60, 50, 2));
        Check.due("another seed", x.smudged(4711, 3), smudgedBy(4711, 3, 50, 2));
        PostScripts one = Check.told("letter wet 74" + REST + ";wrote h p m do inches 1");
        Check.due("74 isn't below 74", one.smudged(0, 1), 0);
        Check.due("24 is", one.smudged(0, 2), 1);
        Check.due("the one line is smudged", one.thumbs(0, 0, 2), -2);
        PostScripts none = Check.told("letter wet 100" + REST);
        Check.due("no lines", none.smudged(7, 60), 0);
        Check.due("in doubt", none.thumbs(0, 7, 60), -2);
        PostScripts wet = Check.told("letter wet 100" + THREE);
        Check.due("each time one", wet.smudged(7, 60), 3);
        PostScripts dry = Check.told("letter wet 0" + THREE);
        Check.due("never one", dry.smudged(7, 60), 0);
    }

    private static int smudgedBy(long seed, int n, int wet, int lines) {
        long s = seed;
        java.util.Set<Long> set = new java.util.HashSet<>();
        for (int i = 0; i < n; i++) {
            s = (75 * s + 74) % 65537;
            if (s % 100 < wet) {
                s = (75 * s + 74) % 65537;
                set.add(s % lines);
            }
        }
        return set.size();
    }

    private static void refusals() {
        PostScripts x = Check.told("letter wet 50" + THREE);
        Check.refused(x, "odds 2", x.odds(2, false), -1, 1);
        Check.refused(x, "odds -1", x.odds(-1, true), -1, 1);
        Check.refused(x, "odds", x.odds(0, false), 1, 0);
        Check.refused(x, "standOdds 3", x.standOdds(3, false), -1, 1);
        Check.refused(x, "standOdds -1", x.standOdds(-1, true), -1, 1);
        Check.refused(x, "standOdds", x.standOdds(0, false), 1, 0);
        Check.refused(x, "thumbs 2", x.thumbs(2, -1, -1), -1, 1);
        Check.refused(x, "thumbs seed -1", x.thumbs(0, -1, 0), -1, 2);
        Check.refused(x, "thumbs seed 65537", x.thumbs(0, 65537, 0), -1, 2);
        Check.refused(x, "thumbs n -1", x.thumbs(0, 0, -1), -1, 2);
        Check.refused(x, "thumbs n 61", x.thumbs(0, 0, 61), -1, 2);
        Check.refused(x, "thumbs", x.thumbs(0, 65536, 0), 0, 0);
        Check.refused(x, "smudged seed -1", x.smudged(-1, 0), -1, 2);
        Check.refused(x, "smudged seed 65537", x.smudged(65537, 0), -1, 2);
        Check.refused(x, "smudged n -1", x.smudged(0, -1), -1, 2);
        Check.refused(x, "smudged n 61", x.smudged(0, 61), -1, 2);
        Check.refused(x, "smudged", x.smudged(0, 60), 3, 0);
        PostScripts y = new PostScripts();
        Check.refused(y, "no letter: mean", y.mean(true), -1, 1);
        Check.refused(y, "no letter: smudged", y.smudged(-1, -1), -1, 1);
        Check.refused(y, "no letter: thumbs", y.thumbs(0, -1, -1), -1, 1);
        x.done(9);
        Check.refused(x, "mean", x.mean(true), 4, 0);
    }
}
