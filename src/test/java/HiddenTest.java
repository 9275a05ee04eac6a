/** Promises 32 to 37: what hidden lines may say, and which one to ask of. */
public final class HiddenTest {
    private static final String HEAD = "letter wet 0;place p rank 1 room 9;place q rank 2 room 9;hand h purse 0;matter m;matter n";

    public static void main(String[] args) {
        one();
        two();
        samePlace();
        none();
        judges();
        three();
        refusals();
        Check.end("HiddenTest");
    }

    private static void one() {
        PostScripts x = Check.told(HEAD + ";wrote h p m do inches 1;hidden q;done m not");
        Check.due("fits", x.fits(), 1);
        Check.due("says not of m", x.fitAt(0, 0), 0);
        Check.due("says m", x.says(0, 0), 1);
        Check.due("says n", x.says(0, 1), 0);
        Check.due("ask", x.ask(), 0);
        Check.due("askLeaves", x.askLeaves(), 1);
        Check.due("judge", x.judge(), 0);
        x.strike(0);
        x.fold(1);
        x.write(0, 0, 0, false, 1);
        Check.due("fits as told at first", x.fits(), 1);
        Check.due("judge as told at first", x.judge(), 0);
        PostScripts y = Check.told(HEAD + ";wrote h p m do inches 1;hidden q;done m not");
        y.strike(0);
        Check.due("fits first asked of behind acts", y.fits(), 1);
        Check.tell(y, HEAD + ";hidden q");
        Check.due("fits of the next letter", y.fits(), 5);
    }

    private static void two() {
        PostScripts x = Check.told(HEAD + ";wrote h p m do inches 1;hidden p;hidden q;done m do");
        int[][] want = {{0, 1}, {1, 1}, {1, 2}, {1, 3}, {1, -2}, {2, 1}, {2, 2}, {2, 3}, {2, -2}, {3, 1}, {3, 2}, {3, 3}, {3, -2},
            {-2, 1}, {-2, 2}, {-2, 3}, {-2, -2}};
        Check.due("fits", x.fits(), want.length);
        for (int i = 0; i < want.length; i++) {
            Check.due("fitAt " + i + " 0", x.fitAt(i, 0), want[i][0]);
            Check.due("fitAt " + i + " 1", x.fitAt(i, 1), want[i][1]);
        }
        Check.refused(x, "fitAt 17 0", x.fitAt(17, 0), -1, 1);
        Check.refused(x, "fitAt -1 0", x.fitAt(-1, 0), -1, 1);
        Check.refused(x, "fitAt 0 2", x.fitAt(0, 2), -1, 1);
        Check.refused(x, "fitAt 0 -1", x.fitAt(0, -1), -1, 1);
        Check.refused(x, "fitAt 16 1", x.fitAt(16, 1), -2, 0);
        Check.due("says 0 0", x.says(0, 0), 5);
        Check.due("says 0 1", x.says(0, 1), 8);
        Check.due("says 1 0", x.says(1, 0), 5);
        Check.due("says 1 1", x.says(1, 1), 8);
        Check.due("ask", x.ask(), 0);
        Check.due("askLeaves", x.askLeaves(), 4);
        Check.due("judge", x.judge(), -2);
        PostScripts other = Check.told(HEAD + ";hidden p;done n do");
        Check.due("of n, do", other.fits(), 1);
        Check.due("it says so", other.fitAt(0, 0), 3);
        Check.due("of m nothing", other.says(0, 0), 0);
        Check.due("of n", other.says(0, 1), 1);
        PostScripts turned = Check.told(HEAD + ";wrote h p m do inches 1;hidden q;hidden p;done m do");
        Check.due("ask the second", turned.ask(), 1);
    }

    private static void samePlace() {
        PostScripts x = Check.told(HEAD + ";hidden p;hidden p;done m do;done n doubt");
        // Only m may be told of; the second one rules, or is blank.
        int[][] want = {{0, 1}, {1, 1}, {1, -2}, {-2, 1}};
        Check.due("fits", x.fits(), want.length);
        for (int i = 0; i < want.length; i++) {
            Check.due("fitAt " + i + " 0", x.fitAt(i, 0), want[i][0]);
            Check.due("fitAt " + i + " 1", x.fitAt(i, 1), want[i][1]);
        }
        Check.due("ask", x.ask(), 0);
        Check.due("askLeaves", x.askLeaves(), 2);
    }

    private static void none() {
        PostScripts x = Check.told(HEAD + ";wrote h p m do inches 1");
        Check.due("no hidden line: one way", x.fits(), 1);
        Check.due("no hidden line: ask", x.ask(), -2);
        Check.due("no hidden line: askLeaves", x.askLeaves(), -2);
        Check.refused(x, "no hidden line: fitAt", x.fitAt(0, 0), -1, 1);
        PostScripts y = Check.told(HEAD + ";wrote h q m do inches 1;hidden p;done m not");
        Check.due("none fits", y.fits(), 0);
        Check.due("none fits: ask", y.ask(), -2);
        Check.due("none fits: askLeaves", y.askLeaves(), -2);
        Check.due("none fits: says", y.says(0, 0), 0);
        Check.refused(y, "none fits: fitAt", y.fitAt(0, 0), -1, 1);
        PostScripts blank = Check.told("letter wet 0;place p rank 1 room 1;hidden p;hidden p");
        Check.due("no matter: blank", blank.fits(), 1);
        Check.due("no matter: fitAt", blank.fitAt(0, 1), -2);
        Check.due("no matter: ask", blank.ask(), 0);
        Check.due("no matter: askLeaves", blank.askLeaves(), 1);
    }

    private static void judges() {
        Check.due("none told", Check.told(HEAD + ";wrote h p m do inches 1").judge(), -2);
        Check.due("as told", Check.told(HEAD + ";wrote h p m do inches 1;done m do;done n doubt").judge(), -2);
        Check.due("the second", Check.told(HEAD + ";wrote h p m do inches 1;done m do;done n do").judge(), 1);
        Check.due("by numbers", Check.told(HEAD + ";done n not;done m do").judge(), 0);
        Check.due("not doubt", Check.told(HEAD + ";wrote h p m not inches 1;done m doubt").judge(), 0);
    }

    private static void three() {
        PostScripts x = Check.told("letter wet 0;place a rank 1 room 1;place b rank 2 room 1;place c rank 3 room 1;over a c;"
                + "matter m;matter n;matter o;matter s;hidden a;hidden b;hidden c");
        Check.due("all fillings", x.fits(), 729);
        Check.due("the last", x.fitAt(728, 0), -2);
        Check.due("the first", x.fitAt(0, 2), 0);
        Check.due("the first line counts most", x.fitAt(81, 0), 1);
        Check.due("the last line counts least", x.fitAt(1, 2), 1);
        Check.due("says", x.says(1, 3), 162);
        Check.due("askLeaves", x.askLeaves(), 81);
        PostScripts ring = Check.told("letter wet 0;place a rank 1 room 1;place b rank 2 room 1;place c rank 3 room 1;over a c;"
                + "matter m;hidden a;hidden b;hidden c;done m doubt");
        Check.due("rings or blank", ring.fits(), 9);
        Check.due("the last is blank", ring.fitAt(8, 0), -2);
    }

    private static void refusals() {
        PostScripts x = Check.told(HEAD + ";hidden p");
        Check.refused(x, "says 1 0", x.says(1, 0), -1, 1);
        Check.refused(x, "says -1 0", x.says(-1, 0), -1, 1);
        Check.refused(x, "says 0 2", x.says(0, 2), -1, 1);
        Check.refused(x, "says 0 -1", x.says(0, -1), -1, 1);
        PostScripts y = new PostScripts();
        Check.refused(y, "no letter: fits", y.fits(), -1, 1);
        Check.refused(y, "no letter: fitAt", y.fitAt(0, 0), -1, 1);
        Check.refused(y, "no letter: ask", y.ask(), -1, 1);
        Check.refused(y, "no letter: askLeaves", y.askLeaves(), -1, 1);
        Check.refused(y, "no letter: judge", y.judge(), -1, 1);
    }
}
