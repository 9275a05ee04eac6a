/** The edges of promises 24 to 28, and of RING and FREE in Terms III. */
final class RingEdges {
    private static final int LEAST = Integer.MIN_VALUE;
    private static final int MOST = Integer.MAX_VALUE;
    private static final String FOUR = "letter wet 0;place a rank 1 room 1;place b rank 2 room 1;place c rank 3 room 1;place d rank 4 room 1";
    private static final String SIX = FOUR + ";place e rank 5 room 1;place f rank 6 room 1";

    private RingEdges() {
    }

    static void run() {
        outranks();
        rings();
        ring();
        ringAt();
        dropping();
        free();
        top();
    }

    private static void outranks() {
        Doc.says(24, "1 if one place OUTRANKS another one, else 0. NONE: 1 (unlike).");
        PostScripts x = Check.told(SIX + ";over a f");
        Check.granted(x, "the first over the last", x.outranks(0, 5), 1);
        Check.granted(x, "the last under the first", x.outranks(5, 0), 0);
        Check.granted(x, "by rank", x.outranks(5, 4), 1);
        for (int p = 0; p < 6; p++) {
            Check.refused(x, "not unlike: " + p, x.outranks(p, p), -1, 1);
        }
        int[] no = {-1, 6, 32, LEAST, MOST};
        for (int p : no) {
            Check.refused(x, "outranks first " + p, x.outranks(p, 0), -1, 1);
            Check.refused(x, "outranks second " + p, x.outranks(0, p), -1, 1);
            Check.refused(x, "outranks both " + p, x.outranks(p, p), -1, 1);
        }
        PostScripts one = Check.told("letter wet 0;place a rank 1 room 1");
        Check.refused(one, "there is no other one", one.outranks(0, 1), -1, 1);
    }

    private static void rings() {
        Doc.says("III", "the fewest places (3 or more), of like ones the first row, place by place.");
        // a is over f: with b, c, d, e there are four rings of three through a, and longer ones.
        PostScripts x = Check.told(SIX + ";over a f");
        int[][] want = {{0, 5, 1}, {1, 0, 5}, {2, 0, 5}, {3, 0, 5}, {4, 0, 5}, {5, 1, 0}};
        same(x, want);
        // Through a there are a c b and a d b, a d c: the second place counts first.
        PostScripts two = Check.told(FOUR + ";over a c;over a d");
        same(two, new int[][] {{0, 2, 1}, {1, 0, 2}, {2, 1, 0}, {3, 1, 0}});
    }

    private static void same(PostScripts x, int[][] want) {
        for (int p = 0; p < want.length; p++) {
            Check.granted(x, "ring " + p, x.ring(p), 3);
            for (int i = 0; i < 3; i++) {
                Check.granted(x, "ringAt " + p + " " + i, x.ringAt(p, i), want[p][i]);
            }
        }
    }

    private static void ring() {
        Doc.says(25, "RING: how many places; -2 there is none. NONE: 1.");
        PostScripts x = Check.told(FOUR + ";over a c");
        Check.granted(x, "three", x.ring(0), 3);
        Check.granted(x, "not through the highest", x.ring(3), -2);
        PostScripts one = Check.told("letter wet 0;place a rank 1 room 1");
        Check.granted(one, "one place", one.ring(0), -2);
        PostScripts two = Check.told("letter wet 0;place a rank 1 room 1;place b rank 2 room 1;over a b");
        Check.granted(two, "two places", two.ring(0), -2);
        PostScripts neighbours = Check.told(FOUR + ";over a b;over c d");
        for (int p = 0; p < 4; p++) {
            Check.granted(neighbours, "changed places: " + p, neighbours.ring(p), -2);
        }
        int[] no = {-1, 4, 32, LEAST, MOST};
        for (int p : no) {
            Check.refused(x, "ring " + p, x.ring(p), -1, 1);
        }
    }

    private static void ringAt() {
        Doc.says(26, "The i-th place of it (0: itself). NONE: 1 (i, too; there is none).");
        PostScripts x = Check.told(FOUR + ";over a c");
        for (int p = 0; p < 3; p++) {
            Check.granted(x, "itself", x.ringAt(p, 0), p);
        }
        int[] no = {-1, 3, 4, 32, LEAST, MOST};
        for (int i : no) {
            Check.refused(x, "ringAt 0 " + i, x.ringAt(0, i), -1, 1);
            Check.refused(x, "none, and " + i, x.ringAt(3, i), -1, 1);
            Check.refused(x, "no such place " + i, x.ringAt(i == 3 ? 5 : i, 0), -1, 1);
        }
        Check.refused(x, "there is none", x.ringAt(3, 0), -1, 1);
    }

    private static void dropping() {
        Doc.says("III", "FREE: the fewest over told to be dropped (ranks then say) so that there is no RING: of like ones the least bits.");
        Check.due("no over", Check.told(SIX).free(), 0);
        Check.due("no ring", Check.told(FOUR + ";over a b;over d a;over c d").free(), 0);
        Check.due("the only one", Check.told(FOUR + ";over a c").free(), 1);
        Check.due("either: the least bits", Check.told(FOUR + ";over a b;over b c").free(), 1);
        Check.due("the fewest ahead of the least bits", Check.told(FOUR + ";over b c;over b d;over a b").free(), 4);
        Check.due("the sixth", Check.told(SIX + ";over b a;over c b;over d c;over e d;over f e;over a c").free(), 32);
        Check.due("all six", Check.told(SIX + ";over a c;over a d;over a e;over a f;over b d;over b e").free(), 63);
    }

    private static void free() {
        Doc.says(27, "FREE, as bits of over as told. NONE: 1 (no LETTER).");
        PostScripts x = Check.told(FOUR + ";over d a;over a c");
        Check.granted(x, "the second as told", x.free(), 2);
        Check.granted(x, "nothing is dropped", x.ring(0), 3);
        PostScripts one = Check.told("letter wet 0;place a rank 1 room 1");
        Check.granted(one, "one place", one.free(), 0);
        PostScripts none = new PostScripts();
        Check.refused(none, "no letter", none.free(), -1, 1);
    }

    private static void top() {
        Doc.says(28, "The place that OUTRANKS most, the first such. NONE: 1 (no LETTER).");
        PostScripts last = Check.told(SIX);
        Check.granted(last, "the last", last.top(), 5);
        PostScripts ring = Check.told("letter wet 0;place a rank 1 room 1;place b rank 2 room 1;place c rank 3 room 1;over a c");
        Check.granted(ring, "all alike: the first", ring.top(), 0);
        PostScripts like = Check.told(FOUR + ";over a d");
        Check.granted(like, "the first of two", like.top(), 2);
        like.fold(2);
        Check.granted(like, "folded or not", like.top(), 2);
        PostScripts second = Check.told("letter wet 0;place a rank 1 room 1;place b rank 9 room 1;place c rank 3 room 1");
        Check.granted(second, "the second", second.top(), 1);
        PostScripts one = Check.told("letter wet 0;place a rank 0 room 1");
        Check.granted(one, "the only one", one.top(), 0);
        PostScripts none = new PostScripts();
        Check.refused(none, "no letter", none.top(), -1, 1);
    }
}
