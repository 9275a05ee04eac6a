/** Promises 24 to 28: who outranks whom, rings, the fewest rules to drop. */
public final class RingTest {
    private static final String FOUR = "letter wet 0;place a rank 1 room 1;place b rank 2 room 1;place c rank 3 room 1;place d rank 4 room 1";

    public static void main(String[] args) {
        ranks();
        rings();
        drops();
        refusals();
        Check.end("RingTest");
    }

    private static void ranks() {
        PostScripts x = Check.told(FOUR);
        for (int p = 0; p < 4; p++) {
            for (int q = 0; q < 4; q++) {
                Check.due("outranks " + p + " " + q, x.outranks(p, q), p == q ? -1 : p > q ? 1 : 0);
            }
            Check.due("no ring", x.ring(p), -2);
        }
        Check.due("top", x.top(), 3);
        Check.due("nothing to drop", x.free(), 0);
        PostScripts y = Check.told(FOUR + ";over a d");
        Check.due("over", y.outranks(0, 3), 1);
        Check.due("under", y.outranks(3, 0), 0);
        Check.due("else by rank", y.outranks(0, 2), 0);
        Check.due("top, the first of like ones", y.top(), 2);
        PostScripts second = Check.told("letter wet 0;place a rank 1 room 1;place b rank 9 room 1;place c rank 3 room 1");
        Check.due("top, the second", second.top(), 1);
        Check.due("top of one", Check.told("letter wet 0;place a rank 1 room 1").top(), 0);
    }

    private static void rings() {
        PostScripts x = Check.told(FOUR + ";place e rank 0 room 1;over a d");
        int[][] want = {{0, 3, 1}, {1, 0, 3}, {2, 0, 3}, {3, 1, 0}};
        for (int p = 0; p < 4; p++) {
            Check.due("ring " + p, x.ring(p), 3);
            for (int i = 0; i < 3; i++) {
                Check.due("ringAt " + p + " " + i, x.ringAt(p, i), want[p][i]);
            }
            Check.refused(x, "ringAt " + p + " 3", x.ringAt(p, 3), -1, 1);
            Check.refused(x, "ringAt " + p + " -1", x.ringAt(p, -1), -1, 1);
        }
        Check.refused(x, "e is in none", x.ring(4), -2, 0);
        Check.refused(x, "ringAt of none", x.ringAt(4, 0), -1, 1);
        x.fold(3);
        Check.due("folding leaves rings", x.ring(0), 3);
    }

    private static void drops() {
        Check.due("the one", Check.told(FOUR + ";over a d").free(), 1);
        Check.due("both", Check.told(FOUR + ";over a d;over a c").free(), 3);
        Check.due("not the harmless one", Check.told(FOUR + ";over a b;over a d").free(), 2);
        Check.due("the least bits", Check.told(FOUR + ";over a b;over b c").free(), 1);
        Check.due("no ring, nothing", Check.told(FOUR + ";over a b;over d a").free(), 0);
        Check.due("fewest ahead of least bits", Check.told(FOUR + ";over b c;over b d;over a b").free(), 4);
        String six = FOUR + ";place e rank 5 room 1;place f rank 6 room 1";
        Check.due("all six", Check.told(six + ";over a c;over a d;over a e;over a f;over b d;over b e").free(), 63);
        Check.due("all but that of neighbours", Check.told(six + ";over a c;over a d;over a e;over a f;over e f;over b e").free(), 47);
        PostScripts x = Check.told(FOUR + ";over a d");
        x.free();
        Check.due("nothing is dropped", x.outranks(0, 3), 1);
    }

    private static void refusals() {
        PostScripts x = Check.told(FOUR);
        Check.refused(x, "outranks -1 0", x.outranks(-1, 0), -1, 1);
        Check.refused(x, "outranks 0 4", x.outranks(0, 4), -1, 1);
        Check.refused(x, "outranks 1 1", x.outranks(1, 1), -1, 1);
        Check.refused(x, "ring 4", x.ring(4), -1, 1);
        Check.refused(x, "ring -1", x.ring(-1), -1, 1);
        Check.refused(x, "ringAt 4 0", x.ringAt(4, 0), -1, 1);
        PostScripts y = new PostScripts();
        Check.refused(y, "no letter: free", y.free(), -1, 1);
        Check.refused(y, "no letter: top", y.top(), -1, 1);
    }
}
