/** All calls of which the document tells numbers, each once as it is refused without a letter, once as it isn't refused. */
final class Calls {
    private interface Call {
        long of(PostScripts x);
    }

    private static final String[] NAMES = {"place", "hand", "line", "done", "stands", "allDone", "ruler", "power", "doneBy", "changes", "since", "idle",
        "turn", "weakest", "holds", "doneIf", "wins", "winsBy", "outranks", "ring", "ringAt", "free", "top", "taken", "paid", "worthOf", "fits", "fitAt",
        "says", "ask", "askLeaves", "judge", "foot", "rests", "rest", "odds", "standOdds", "mean", "thumbs", "smudged", "write", "strike", "fold",
        "undo", "image", "back"};
    private static final Call[] CALLS = {x -> x.place(0, 0), x -> x.hand(0, 0), x -> x.line(0, 0), x -> x.done(0), x -> x.stands(0), x -> x.allDone(),
        x -> x.ruler(), x -> x.power(), x -> x.doneBy(0, 0), x -> x.changes(0), x -> x.since(0), x -> x.idle(), x -> x.turn(0), x -> x.weakest(),
        x -> x.holds(0, true), x -> x.doneIf(0, 0, true), x -> x.wins(0, 0), x -> x.winsBy(0, 1), x -> x.outranks(0, 1), x -> x.ring(0),
        x -> x.ringAt(0, 0), x -> x.free(), x -> x.top(), x -> x.taken(), x -> x.paid(), x -> x.worthOf(0), x -> x.fits(), x -> x.fitAt(0, 0),
        x -> x.says(0, 0), x -> x.ask(), x -> x.askLeaves(), x -> x.judge(), x -> x.foot(0, false, false, false), x -> x.rests(0), x -> x.rest(0),
        x -> x.odds(0, false), x -> x.standOdds(0, false), x -> x.mean(false), x -> x.thumbs(0, 0, 0), x -> x.smudged(0, 0),
        x -> x.write(0, 0, 0, true, 1), x -> x.strike(0) ? 1 : 0, x -> x.fold(0), x -> x.undo() ? 1 : 0, x -> x.image(), x -> x.back(0) ? 1 : 0};

    private Calls() {
    }

    static void refusedWithoutLetter() {
        for (int i = 0; i < CALLS.length; i++) {
            PostScripts x = new PostScripts();
            String name = NAMES[i];
            boolean truth = name.equals("strike") || name.equals("undo") || name.equals("back");
            int want = truth ? 0 : name.equals("foot") ? -100 : -1;
            Check.refused(x, "no letter: " + name, CALLS[i].of(x), want, name.equals("undo") ? 6 : 1);
            Check.due("no letter behind " + name, x.size(1), 0);
        }
    }

    /** Each call that isn't refused must have no trouble, whatever there was ahead of it. */
    static void granted(PostScripts x) {
        for (int i = 0; i < CALLS.length; i++) {
            granted(x, NAMES[i], CALLS[i]);
        }
        for (int i = 0; i < 8; i++) {
            int what = i;
            granted(x, "line " + what, y -> y.line(0, what));
            if (what < 6) {
                granted(x, "place " + what, y -> y.place(0, what));
            }
            if (what < 3) {
                granted(x, "hand " + what, y -> y.hand(0, what));
                granted(x, "ringAt " + what, y -> y.ringAt(0, what));
            }
        }
    }

    private static void granted(PostScripts x, String name, Call call) {
        x.done(99);
        Check.due("trouble ahead of " + name, x.trouble(), 1);
        call.of(x);
        Check.due("trouble of " + name, x.trouble(), 0);
    }
}
