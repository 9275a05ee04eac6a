/** The edges of promises 1 to 5, 53 and 54, and of Terms IV: tape, letter, faults, sizes, trouble. */
final class LetterEdges {
    private static final int LEAST = Integer.MIN_VALUE;
    private static final int MOST = Integer.MAX_VALUE;
    private static final String HEAD = "letter wet 30;place p rank 1 room 2;place q rank 2 room 1;hand h purse 5;matter m;matter n";
    private static final String TEXT = HEAD + ";wrote h p m do inches 1;hidden q;done m do;bid h p inches 1 pays 2";

    private LetterEdges() {
    }

    static void run() {
        calls512();
        newObject();
        feed();
        letter();
        behindOthers();
        letterRefused();
        fault();
        where();
        size();
        trouble();
        notRefused();
        noNumberTold();
    }

    private static void calls512() {
        Doc.says("What it is", "An object is used for at most 512 calls after it has been made");
        String text = "letter wet 0;place p rank 1 room 2      ";
        PostScripts x = new PostScripts();
        Check.feed(x, text);
        x.letter(text.length());
        for (int call = 4; call <= 511; call++) {
            x.fold(0);
        }
        Check.due("the 512th call", x.place(0, 5), 0);
    }

    private static void newObject() {
        Doc.says(1, "No LETTER.");
        PostScripts x = new PostScripts();
        Check.due("trouble", x.trouble(), 0);
        Check.due("fault", x.fault(), 0);
        Check.due("where", x.where(), -1);
        for (int what = 0; what <= 11; what++) {
            Check.due("size " + what, x.size(what), 0);
        }
        Calls.refusedWithoutLetter();
        Doc.says("The public face", "public static final int NONE = -1;");
        Check.due("NONE", PostScripts.NONE, -1);
        Doc.says("IV", "`NONE = -1`: There is none; refused.");
        Check.due("refused", new PostScripts().done(0), PostScripts.NONE);
    }

    private static void feed() {
        Doc.says(2, "Twenty bytes come behind THE TAPE, of each number the highest first: how many it has");
        PostScripts x = new PostScripts();
        Check.due("twenty", x.feed(0x6c657474, 0x65722077, 0x65742030, 0x3b706c61, 0x63652070), 20);
        Check.due("twenty more", x.feed(0x2072616e, 0x6b203120, 0x726f6f6d, 0x203120ff, 0x80000000), 40);
        Check.due("a letter of them", x.letter(35), 1);
        // Bytes above 127 begin no token, wherever they stand in a number.
        int[] numbers = {0xff202020, 0x20ff2020, 0x2020ff20, 0x202020ff, 0x80202020, 0x20202000};
        int[] at = {0, 1, 2, 3, 0, 3};
        for (int i = 0; i < numbers.length; i++) {
            x.feed(0x20202020, 0x20202020, 0x20202020, 0x20202020, numbers[i]);
            x.letter(20);
            Check.due("byte of " + numbers[i], x.where(), 16 + at[i]);
            x.feed(numbers[i], 0, 0, 0, 0);
            x.letter(20);
            Check.due("first byte of " + numbers[i], x.where(), at[i]);
        }
        Doc.says(2, "NONE, and none comes, if there would be more than 900");
        PostScripts full = new PostScripts();
        for (int i = 1; i <= 44; i++) {
            Check.due("feed " + i, full.feed(0x20202020, 0x20202020, 0x20202020, 0x20202020, 0x20202020), 20 * i);
        }
        Check.due("880", full.size(11), 880);
        Check.due("the last twenty", full.feed(0x20202020, 0x20202020, 0x20202020, 0x20202020, 0x20202020), 900);
        Check.due("one time more", full.feed(1, 1, 1, 1, 1), -1);
        Check.due("and again", full.feed(0, 0, 0, 0, 0), -1);
        Check.due("none came", full.size(11), 900);
        Check.refused(full, "none is behind them", full.letter(901), -1, 2);
        Check.refused(full, "all 900", full.letter(900), -1, 4);
        Check.due("only blanks", full.where(), 900);
        Check.due("there is room again", full.feed(0, 0, 0, 0, 0), 20);
    }

    private static void letter() {
        Doc.says(3, "The first n bytes of THE TAPE (it is empty then) are the LETTER from now on");
        PostScripts x = new PostScripts();
        Check.feed(x, "letter wet 0;place p rank 1 room 1;place q rank 2 room 1");
        Check.due("not all of it", x.letter(34), 1);
        Check.due("it is empty then", x.size(11), 0);
        Check.refused(x, "nothing is left", x.letter(1), -1, 2);
        Check.feed(x, "letter wet 0;place p rank 12 room 1");
        Check.due("bytes count, not tokens: cut in a whole", x.letter(27), -1);
        Check.due("FORM at the end", x.where(), 27);
        Check.feed(x, "letter wet 0;place p rank 1 room 1;hidden pq");
        Check.due("cut in a word", x.letter(43), 1);
        Check.feed(x, "letter wet 0;place p rank 1 room 12");
        Check.due("cut in another whole", x.letter(34), 1);
        Check.due("what is left of it", x.place(0, 1), 1);
        Check.feed(x, "letter wet 0");
        Check.due("cut behind nothing", x.letter(0), -1);
        Check.due("FORM at the end of nothing", x.where(), 0);
        Check.due("it is empty by a fault, too", x.size(11), 0);
        Check.due("another letter", Check.tell(x, "letter wet 5;place r rank 7 room 3"), 1);
        Check.due("its wet", x.size(0), 5);
        Check.due("its rank", x.place(0, 0), 7);
        Doc.says(3, "(nothing struck, folded; nothing to undo, no IMAGES)");
        PostScripts y = Check.told(TEXT);
        y.write(0, 1, 1, true, 1);
        y.strike(0);
        y.strike(1);
        y.fold(0);
        y.fold(1);
        y.image();
        y.image();
        y.image();
        Check.due("the same once more", Check.tell(y, TEXT), 2);
        Check.same("as a new one", Check.look(Check.told(TEXT)), Check.look(y));
        Check.refused(y, "nothing to undo", y.undo(), 6);
        Check.refused(y, "no images", y.back(0), 1);
        Check.granted(y, "room for images", y.image(), 0);
        Doc.says(3, "how many places");
        StringBuilder text = new StringBuilder("letter wet 0");
        for (int places = 1; places <= 6; places++) {
            text.append(";place ").append((char) ('a' + places)).append(" rank ").append(places).append(" room 1");
            Check.fine(text.toString(), places);
        }
    }

    /** A letter has nothing of those ahead of it, be they letters or faulty. */
    private static void behindOthers() {
        Doc.says(3, "are the LETTER from now on");
        String much = TEXT + ";over p q;bid h q inches 1 pays 1;hidden p";
        String little = "letter wet 0;place p rank 1 room 1;matter m";
        PostScripts x = new PostScripts();
        String[] ahead = {much, much, much + ";?", much, little, much + ";over p q", little, much};
        for (String text : ahead) {
            Check.tell(x, text);
            int[] want = {0, 1, 0, 0, 1, 0, 0, 0, 0, 0, 0, 0};
            Check.due("little", Check.tell(x, little), 1);
            for (int what = 0; what < want.length; what++) {
                Check.due("size " + what, x.size(what), want[what]);
            }
            Check.due("room", x.place(0, 2), 1);
            Check.due("fits of little", x.fits(), 1);
            Check.due("judge of little", x.judge(), -2);
            Check.due("taken of little", x.taken(), 0);
            Check.due("much", Check.tell(x, much), 2);
            Check.same("much", Check.look(Check.told(much)), Check.look(x));
            Check.due("fits of much", x.fits(), 20);
            Check.due("what the first says of m", x.says(0, 0), 8);
            Check.due("taken of much", x.taken(), 3);
            x.strike(0);
            x.fold(0);
        }
    }

    private static void letterRefused() {
        Doc.says(3, "NONE: 2 (THE TAPE stays)");
        PostScripts x = Check.told(TEXT);
        x.fold(0);
        Check.feed(x, "letter wet 0;place p rank 1 room 1      ");
        String before = Check.look(x);
        int[] numbers = {-1, 41, 901, LEAST, MOST};
        for (int n : numbers) {
            Check.refused(x, "letter " + n, x.letter(n), -1, 2);
            Check.due("where behind " + n, x.where(), -1);
            Check.same("letter " + n, before, Check.look(x));
        }
        Check.granted(x, "all of it", x.letter(40), 1);
        PostScripts empty = new PostScripts();
        Check.refused(empty, "an empty tape", empty.letter(1), -1, 2);
        Doc.says(3, "4 (the LETTER stays)");
        PostScripts y = Check.told(TEXT);
        y.write(0, 1, 1, true, 1);
        y.strike(0);
        y.fold(0);
        y.image();
        String as = Check.look(y);
        String[] faulty = {"", "letter wet 9", "letter wet 9;place s rank 3 room 9;place t rank 4 room 9;place u rank 5 room 9;matter x;done x do;?",
            "letter wet 9;place p rank 1 room 9;hand h purse 0;matter m;wrote h p m not inches 1;hidden p;done m not;bid h p inches 1 pays 1;over p p"};
        for (String text : faulty) {
            Check.due("letter <" + text + ">", Check.tell(y, text), -1);
            Check.due("trouble <" + text + ">", y.trouble(), 4);
            Check.same("letter <" + text + ">", as, Check.look(y));
        }
        Check.due("fits", y.fits(), 5 - 1);
        Check.due("undo", y.undo(), true);
        Check.due("back", y.back(0), true);
        PostScripts none = new PostScripts();
        Check.due("there was none", Check.tell(none, "letter wet 9;place s rank 3 room 9;?"), -1);
        Check.refused(none, "there is none", none.allDone(), -1, 1);
        Check.due("no wet", none.size(0), 0);
        Check.due("no places", none.size(1), 0);
    }

    private static void fault() {
        Doc.says(4, "The FAULT of the latest letter() not refused by 2; 0 without one.");
        PostScripts x = new PostScripts();
        Check.due("no letter() yet", x.fault(), 0);
        x.letter(1);
        Check.due("refused by 2", x.fault(), 0);
        String place = "letter wet 0;place p rank 1 room 1";
        String[] texts = {"", place + ";hidden q", place + ";letter", "letter wet 101", place + ";hidden p;hidden p;hidden p;hidden p", "letter wet 0",
            place + ";hand h purse 0;matter m;wrote h p m do inches 2"};
        for (int i = 0; i < texts.length; i++) {
            Check.tell(x, texts[i]);
            Check.due("fault of <" + texts[i] + ">", x.fault(), i + 1);
            Check.due("again", x.fault(), i + 1);
            x.letter(MOST);
            Check.due("behind one refused by 2", x.fault(), i + 1);
            x.done(0);
            x.feed(0, 0, 0, 0, 0);
            Check.due("behind other calls", x.fault(), i + 1);
            x.letter(20);
            Check.due("zeros", x.fault(), 1);
        }
        Check.tell(x, place);
        Check.due("without one", x.fault(), 0);
        x.letter(-1);
        Check.due("still without one", x.fault(), 0);
    }

    private static void where() {
        Doc.says(5, "Its place, if the latest call that may be refused was by 4; NONE else.");
        PostScripts x = new PostScripts();
        Check.due("no call yet", x.where(), -1);
        Check.tell(x, "letter wet 101");
        Check.due("by 4", x.where(), 11);
        Check.due("again", x.where(), 11);
        x.fault();
        x.trouble();
        x.size(0);
        x.feed(0, 0, 0, 0, 0);
        Check.led(x, 0);
        Check.due("those tell no number", x.where(), 11);
        x.letter(21);
        Check.due("by 2", x.where(), -1);
        x.letter(20);
        Check.due("at the first byte", x.where(), 0);
        x.done(0);
        Check.due("by 1", x.where(), -1);
        Check.tell(x, "letter wet 101");
        x.undo();
        Check.due("by 6", x.where(), -1);
        Check.tell(x, "letter wet 101");
        Check.due("by 4 once more", x.where(), 11);
        Check.tell(x, "letter wet 10;place p rank 1 room 1");
        Check.due("not refused", x.where(), -1);
        Check.tell(x, "letter wet 101");
        x.fold(0);
        Check.due("another one not refused", x.where(), -1);
        Check.due("the fault stays", x.fault(), 4);
    }

    private static void size() {
        Doc.says(53, "0 wet, 1 places, 2 over, 3 hands, 4 matters, 5 lines NOW, 6 hidden, 7 done as told, 8 bids, 9 ACTS that can be undone, "
                + "10 IMAGES, 11 bytes of THE TAPE.");
        PostScripts x = Check.told(TEXT);
        int[] want = {30, 2, 0, 1, 2, 1, 1, 1, 1, 0, 0, 0};
        for (int what = 0; what < want.length; what++) {
            Check.due("size " + what, x.size(what), want[what]);
        }
        x.write(0, 0, 0, true, 1);
        Check.due("lines now", x.size(5), 2);
        x.strike(0);
        Check.due("struck ones are lines", x.size(5), 2);
        x.fold(0);
        Check.due("acts", x.size(9), 3);
        Check.due("folded places are places", x.size(1), 2);
        x.undo();
        x.undo();
        x.undo();
        Check.due("lines now, undone", x.size(5), 1);
        Check.due("acts, undone", x.size(9), 0);
        Check.due("hidden, done stay", x.size(6) + x.size(7), 2);
        PostScripts most = Check.told("letter wet 100;place a rank 1 room 9;place b rank 2 room 9;place c rank 3 room 9;place d rank 4 room 9;place e rank 5 room 9;"
                + "place f rank 6 room 9;over a b;over b c;over c d;over d e;over e f;over f a;hand h purse 0;hand i purse 0;hand j purse 0;hand k purse 0;"
                + "matter m;matter n;matter o;matter s" + ";wrote h a m do inches 1".repeat(8) + ";hidden a;hidden a;hidden a"
                + ";done m do;done n do;done o do;done s do" + ";bid h a inches 1 pays 1".repeat(6));
        for (int i = 0; i < 20; i++) {
            most.fold(0);
            most.image();
        }
        for (int i = 0; i < 50; i++) {
            most.feed(0, 0, 0, 0, 0);
        }
        int[] mosts = {100, 6, 6, 4, 4, 8, 3, 4, 6, 16, 3, 900};
        for (int what = 0; what < mosts.length; what++) {
            Check.due("most of " + what, most.size(what), mosts[what]);
        }
        Doc.says(53, "NONE for others");
        int[] others = {-1, 12, 13, 32, LEAST, MOST};
        for (int what : others) {
            Check.due("size " + what, x.size(what), -1);
            Check.due("size " + what + " without a letter", new PostScripts().size(what), -1);
        }
        Doc.says(53, "0 for what there isn't");
        PostScripts none = new PostScripts();
        PostScripts least = Check.told("letter wet 0;place p rank 0 room 1");
        for (int what = 0; what < want.length; what++) {
            Check.due("no letter " + what, none.size(what), 0);
            Check.due("the least letter " + what, least.size(what), what == 1 ? 1 : 0);
        }
    }

    private static void trouble() {
        Doc.says("IV", "0 it wasn't; 1 there is none such; 2 a number; 3 no room; 4 a FAULT; 5 not so; 6 there is none.");
        PostScripts x = Check.told(TEXT);
        Check.granted(x, "done", x.done(0), 1);
        Check.refused(x, "none such", x.done(2), -1, 1);
        Check.refused(x, "a number", x.doneBy(0, 2), -1, 2);
        Check.refused(x, "no room", x.write(0, 1, 0, true, 2), -1, 3);
        Check.refused(x, "a fault", x.letter(0), -1, 4);
        x.strike(0);
        Check.refused(x, "not so", x.strike(0), 5);
        x.undo();
        Check.refused(x, "none", x.undo(), 6);
        Doc.says(54, "TROUBLE.");
        Check.due("again", x.trouble(), 6);
        Check.due("once more", x.trouble(), 6);
        Check.due("a new object", new PostScripts().trouble(), 0);
    }

    private static void notRefused() {
        Doc.says("IV", "TROUBLE of the latest call that may be refused");
        PostScripts x = Check.told(TEXT + ";place r rank 3 room 1;over p r");
        x.image();
        PostScripts judged = Check.told(HEAD + ";done n do");
        judged.done(99);
        Check.granted(judged, "judge finds one", judged.judge(), 1);
        Calls.granted(x);
        x.undo();
        x.undo();
        Check.due("trouble ahead of letter", x.trouble(), 6);
        Check.granted(x, "letter", Check.tell(x, TEXT), 2);
    }

    private static void noNumberTold() {
        Doc.says("IV", "(those of which a number is told here)");
        PostScripts x = Check.told(TEXT);
        for (int i = 0; i < 45; i++) {
            x.feed(0, 0, 0, 0, 0);
        }
        x.undo();
        Check.due("feed", x.feed(0, 0, 0, 0, 0), -1);
        Check.due("behind feed", x.trouble(), 6);
        x.size(12);
        Check.due("behind size", x.trouble(), 6);
        Check.due("led", Check.led(x, 7), -99);
        Check.due("behind led that throws", x.trouble(), 6);
        Check.due("led", Check.led(x, 0), 1);
        Check.due("behind led", x.trouble(), 6);
        x.fault();
        x.where();
        Check.due("behind fault, where", x.trouble(), 6);
        x.done(0);
        x.feed(0, 0, 0, 0, 0);
        Check.led(x, 7);
        x.size(12);
        Check.due("none of them is refused by a number", x.trouble(), 0);
    }
}
