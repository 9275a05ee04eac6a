/** Promises 38 to 40: a king, a chancellor and their rests. */
public final class FootTest {
    public static void main(String[] args) {
        PostScripts x = Check.told("letter wet 0;place p rank 1 room 1");
        for (int ink = 0; ink <= 9; ink++) {
            Check.due("both leave: king", x.foot(ink, false, false, false), 3);
            Check.due("both leave: chancellor", x.foot(ink, false, false, true), 3);
            Check.due("king alone: king", x.foot(ink, true, false, false), 4 - ink);
            Check.due("king alone: chancellor", x.foot(ink, true, false, true), 0);
            Check.due("chancellor alone: king", x.foot(ink, false, true, false), 0);
            Check.due("chancellor alone: chancellor", x.foot(ink, false, true, true), 4 - ink);
            Check.due("both write: king", x.foot(ink, true, true, false), 1);
            Check.due("both write: chancellor", x.foot(ink, true, true, true), 1);
            Check.due("rests " + ink, x.rests(ink), ink == 0 ? 1 : 2);
            Check.due("rest " + ink, x.rest(ink), ink == 0 ? 11 : 0);
        }
        Check.refused(x, "minus five isn't refused", x.foot(9, true, false, false), -5, 0);
        Check.refused(x, "minus one isn't refused", x.foot(5, true, false, false), -1, 0);
        Check.refused(x, "foot -1", x.foot(-1, true, true, true), -100, 2);
        Check.refused(x, "foot 10", x.foot(10, true, true, true), -100, 2);
        Check.refused(x, "rests -1", x.rests(-1), -1, 2);
        Check.refused(x, "rests 10", x.rests(10), -1, 2);
        Check.refused(x, "rest -1", x.rest(-1), -1, 2);
        Check.refused(x, "rest 10", x.rest(10), -1, 2);
        Check.refused(x, "rest", x.rest(5), 0, 0);
        PostScripts y = new PostScripts();
        Check.refused(y, "no letter: foot", y.foot(10, true, true, true), -100, 1);
        Check.refused(y, "no letter: rests", y.rests(10), -1, 1);
        Check.refused(y, "no letter: rest", y.rest(10), -1, 1);
        Check.end("FootTest");
    }
}
