/** Promises 1 to 5, 53 and 54: the text of a letter and its faults. */
public final class LetterTest {
    private static final String HEAD = "letter wet 0;place p rank 1 room 2;place q rank 2 room 1;hand h purse 5;matter m";
    private static final String FULL = "letter wet 7;place a rank 1 room 9;place b rank 2 room 9;place c rank 3 room 9;"
            + "place d rank 4 room 9;place e rank 5 room 9;place f rank 99 room 1;over a b;over a c;over a d;over a e;"
            + "over a f;over b c;hand h purse 99;hand i purse 0;hand j purse 1;hand k purse 2;matter m;matter n;matter o;matter s";

    public static void main(String[] args) {
        newObject();
        tape();
        letters();
        wholeLetter();
        form();
        names();
        again();
        bounds();
        many();
        lacks();
        full();
        sizes();
        Check.end("LetterTest");
    }

    private static void newObject() {
        PostScripts x = new PostScripts();
        Check.due("new trouble", x.trouble(), 0);
        Check.due("new fault", x.fault(), 0);
        Check.due("new where", x.where(), -1);
        for (int what = 0; what <= 11; what++) {
            Check.due("new size " + what, x.size(what), 0);
        }
        Check.due("new size -1", x.size(-1), -1);
        Check.due("new size 12", x.size(12), -1);
        Check.due("new led", Check.led(x, 0), -99);
        Check.refused(x, "new undo", x.undo() ? 1 : 0, 0, 6);
        Check.refused(x, "new back", x.back(0) ? 1 : 0, 0, 1);
        Check.refused(x, "new strike", x.strike(0) ? 1 : 0, 0, 1);
        Check.refused(x, "new askLeaves", x.askLeaves(), -1, 1);
        Check.refused(x, "new rest", x.rest(10), -1, 1);
        Check.refused(x, "new foot", x.foot(10, false, false, false), -100, 1);
        Check.refused(x, "new ringAt", x.ringAt(0, 0), -1, 1);
    }

    private static void tape() {
        PostScripts x = new PostScripts();
        for (int i = 1; i <= 45; i++) {
            Check.due("feed " + i, x.feed(0, 0, 0, 0, 0), 20 * i);
        }
        Check.due("feed more", x.feed(0, 0, 0, 0, 0), -1);
        Check.due("tape", x.size(11), 900);
        Check.due("feed leaves trouble", x.trouble(), 0);
        Check.refused(x, "letter 901", x.letter(901), -1, 2);
        Check.refused(x, "letter -1", x.letter(-1), -1, 2);
        Check.due("refused by 2 leaves no fault", x.fault(), 0);
        Check.due("refused by 2 has no place", x.where(), -1);
        Check.due("tape stays", x.size(11), 900);
        Check.refused(x, "letter of zeros", x.letter(900), -1, 4);
        Check.due("fault of zeros", x.fault(), 1);
        Check.due("where of zeros", x.where(), 0);
        Check.due("tape is empty", x.size(11), 0);
        // The highest byte of each number comes first: "lett" "er w" "et 0" ";pla" "ce p".
        Check.due("feed by numbers", x.feed(0x6c657474, 0x65722077, 0x65742030, 0x3b706c61, 0x63652070), 20);
        Check.feed(x, " rank 1 room 2");
        Check.due("letter by numbers", x.letter(34), 1);
        Check.due("letter by numbers rank", x.place(0, 0), 1);
        Check.due("letter by numbers inches", x.place(0, 1), 2);
    }

    private static void letters() {
        PostScripts x = Check.told(HEAD + ";wrote h p m do inches 1");
        Check.due("letter trouble", x.trouble(), 0);
        Check.due("letter fault", x.fault(), 0);
        x.strike(0);
        x.fold(0);
        x.image();
        Check.due("bad letter", Check.tell(x, "letter wet 0;place p rank"), -1);
        Check.due("bad letter fault", x.fault(), 1);
        Check.due("bad letter where", x.where(), 25);
        Check.due("bad letter where again", x.where(), 25);
        x.size(0);
        x.feed(1, 2, 3, 4, 5);
        Check.due("where behind feed, size", x.where(), 25);
        Check.due("led leaves trouble", Check.led(x, 0), 0);
        Check.due("where behind led", x.where(), 25);
        Check.due("letter stays", x.size(1), 2);
        Check.due("lines stay", x.line(0, 5), 1);
        Check.due("where behind another call", x.where(), -1);
        Check.due("fault behind another call", x.fault(), 1);
        Check.refused(x, "letter by 2", x.letter(21), -1, 2);
        Check.due("fault behind letter by 2", x.fault(), 1);
        Check.due("fold stays", x.place(0, 5), 1);
        Check.due("acts stay", x.size(9), 2);
        Check.due("images stay", x.size(10), 1);
        x.letter(0);
        Check.due("a letter of no bytes", x.fault(), 1);
        Check.due("its place", x.where(), 0);
        Check.due("tape behind it", x.size(11), 0);
        Check.due("next letter", Check.tell(x, HEAD), 2);
        Check.due("next letter fault", x.fault(), 0);
        Check.due("next letter folds", x.place(0, 5), 0);
        Check.due("next letter acts", x.size(9), 0);
        Check.due("next letter images", x.size(10), 0);
        Check.due("next letter lines", x.size(5), 0);
        Check.due("next letter undo", x.undo(), false);
        Check.due("next letter back", x.back(0), false);
        Check.feed(x, "letter wet 0;place p rank 1 room 12");
        Check.due("cut in a whole", x.letter(34), 1);
        Check.due("what is left of it", x.place(0, 1), 1);
        Check.feed(x, "letter wet 0;place p rank 1 room 1;hidden pq");
        Check.due("cut in a word", x.letter(43), 1);
        Check.due("what is left of that", x.size(6), 1);
        Check.feed(x, HEAD);
        Check.due("part of the tape", x.letter(34), 1);
        Check.due("the tape is empty then", x.size(11), 0);
    }

    private static void wholeLetter() {
        PostScripts x = Check.told("   letter   wet050;place rank rank0room9 ;  place wet rank 099 room 001;over wet rank;"
                + "hand do purse 99;matter not;wrote do wet not not inches 1;hidden rank;done not doubt;bid do rank inches 9 pays 0  ");
        Check.due("wet", x.size(0), 50);
        Check.due("names like words", x.size(1), 2);
        Check.due("rank", x.place(1, 0), 99);
        Check.due("inches", x.place(0, 1), 9);
        Check.due("says not", x.line(0, 3), 0);
        Check.due("all of it", Check.tell(new PostScripts(), FULL), 6);
        String longest = FULL + ";wrote h a m do inches 1;wrote h a m do inches 1;wrote h a m do inches 1;wrote h a m do inches 1;"
                + "wrote h a m do inches 1;wrote h a m do inches 1;wrote h a m do inches 1;wrote h a m do inches 1;"
                + "hidden f;hidden f;hidden f;done m do;done n not;done o doubt;done s do";
        Check.due("long", Check.tell(new PostScripts(), longest), 6);
    }

    private static void form() {
        Check.faulty("", 1, 0);
        Check.faulty("   ", 1, 3);
        Check.faulty("letter", 1, 6);
        Check.faulty("letter  ", 1, 8);
        Check.faulty("letter wet", 1, 10);
        Check.faulty("letter wet 0;", 1, 13);
        Check.faulty("letter wet 0;  ", 1, 15);
        Check.faulty("; letter wet 0", 1, 0);
        Check.faulty("Letter wet 0", 1, 0);
        Check.faulty("foo", 1, 0);
        Check.faulty("17", 1, 0);
        Check.faulty("letter dry 0", 1, 7);
        Check.faulty("letter get 0", 1, 7);
        Check.faulty("metter wet 0", 1, 0);
        Check.faulty("letters wet 0", 1, 0);
        Check.faulty("lette wet 0", 1, 0);
        Check.faulty("letter wet 0;place p{ rank 1 room 1", 1, 20);
        Check.faulty("letter wet 0;place p` rank 1 room 1", 1, 20);
        Check.faulty("letter wet 0/", 1, 12);
        Check.faulty("letter wet 0:", 1, 12);
        Check.due("eight letters", Check.tell(new PostScripts(), "letter wet 0;place zyxwvaza rank 1 room 1;hidden zyxwvaza"), 1);
        Check.faulty("letter wet wet", 1, 11);
        Check.faulty("letter wet 0000;place p rank 1 room 1", 1, 11);
        Check.faulty("letter wet 0 place p rank 1 room 1", 1, 13);
        Check.faulty("letter wet 0;;place p rank 1 room 1", 1, 13);
        Check.faulty("letter wet 0;foo", 1, 13);
        Check.faulty("letter wet 0;place p rank -1", 1, 26);
        Check.faulty("letter wet 0;place p\trank 1", 1, 20);
        Check.faulty("letter wet 0;place p rank 1 room 1\u00e9", 1, 34);
        Check.faulty("letter wet 0;place pqrstuvwx rank 1 room 1", 1, 19);
        Check.faulty("letter wet 0;place p1 rank 1 room 1", 1, 20);
        Check.faulty("letter wet 0;place 1 rank 1 room 1", 1, 19);
        String[] words = {"letter", "place", "over", "hand", "matter", "wrote", "hidden", "done", "bid"};
        for (String word : words) {
            Check.faulty("letter wet 0;place " + word, 1, 19);
            Check.faulty(HEAD + ";over p " + word, 1, HEAD.length() + 8);
        }
        String[] ends = {"place r rank 9 room", "place r rank 9 9", "place r 9", "over p", "over p q p", "over p;", "hand i", "hand i purse",
            "hand i purse 5 5", "matter", "matter n n", "wrote h p", "wrote h p m", "wrote h p m do", "wrote h p m do 1", "wrote h p m doubt",
            "wrote h p m do inches", "wrote h p m do inches 1 1", "hidden", "hidden p p", "done", "done m", "done m maybe", "done m 1", "done m do do",
            "bid h p", "bid h p inches", "bid h p inches do", "bid h p inches 1 1", "bid h p inches 1 pays", "bid h p inches 1 pays 1 1"};
        int[] at = {19, 15, 8, 6, 9, 6, 6, 12, 15, 6, 9, 9, 11, 14, 15, 12, 21, 24, 6, 9, 4, 6, 7, 7, 10, 7, 14, 15, 17, 21, 24};
        for (int i = 0; i < ends.length; i++) {
            Check.faulty(HEAD + ";" + ends[i], 1, HEAD.length() + 1 + at[i]);
        }
    }

    private static void names() {
        Check.faultyAtLast(HEAD + ";over r", 2);
        Check.faultyAtLast(HEAD + ";over p r", 2);
        Check.faultyAtLast(HEAD + ";over m", 2);
        Check.faultyAtLast(HEAD + ";over p h", 2);
        Check.faultyAtLast(HEAD + ";wrote x", 2);
        Check.faultyAtLast(HEAD + ";wrote m", 2);
        Check.faultyAtLast(HEAD + ";wrote h h", 2);
        Check.faultyAtLast(HEAD + ";wrote h p p", 2);
        Check.faultyAtLast(HEAD + ";wrote h p n", 2);
        Check.faultyAtLast(HEAD + ";hidden m", 2);
        Check.faultyAtLast(HEAD + ";hidden pp", 2);
        Check.faultyAtLast(HEAD + ";done p", 2);
        Check.faultyAtLast(HEAD + ";done do", 2);
        Check.faultyAtLast(HEAD + ";bid p", 2);
        Check.faultyAtLast(HEAD + ";bid h m", 2);
        Check.faultyAtLast("letter wet 0;over p", 2);
        Check.faulty(HEAD + ";over x Y", 2, HEAD.length() + 6);
    }

    private static void again() {
        Check.faultyAtLast(HEAD + ";place p", 3);
        Check.faultyAtLast(HEAD + ";place h", 3);
        Check.faultyAtLast(HEAD + ";hand m", 3);
        Check.faultyAtLast(HEAD + ";hand h", 3);
        Check.faultyAtLast(HEAD + ";matter m", 3);
        Check.faultyAtLast(HEAD + ";matter q", 3);
        Check.faultyAtLast(HEAD + ";place r rank 2", 3);
        Check.faultyAtLast(HEAD + ";place r rank 002", 3);
        Check.faultyAtLast(HEAD + ";place r rank 1", 3);
        Check.faultyAtLast(HEAD + ";over q q", 3);
        Check.faultyAtLast(HEAD + ";over p q;over p q", 3);
        Check.faultyAtLast(HEAD + ";over p q;over q p", 3);
        Check.faultyAtLast(HEAD + ";done m do;done m", 3);
        Check.faultyAtLast(HEAD + ";done m doubt;done m", 3);
        Check.faultyAtLast(HEAD + ";letter", 3);
        Check.faulty(HEAD + ";letter wet 0", 3, HEAD.length() + 1);
    }

    private static void bounds() {
        Check.faultyAtLast("letter wet 101", 4);
        Check.faultyAtLast("letter wet 999", 4);
        Check.faultyAtLast("letter wet 0;place p rank 100", 4);
        Check.faultyAtLast("letter wet 0;place p rank 0 room 0", 4);
        Check.faultyAtLast("letter wet 0;place p rank 0 room 10", 4);
        Check.faultyAtLast(HEAD + ";hand i purse 100", 4);
        Check.faultyAtLast(HEAD + ";wrote h p m do inches 0", 4);
        Check.faultyAtLast(HEAD + ";wrote h p m not inches 10", 4);
        Check.faultyAtLast(HEAD + ";bid h p inches 0", 4);
        Check.faultyAtLast(HEAD + ";bid h p inches 10", 4);
        Check.faultyAtLast(HEAD + ";bid h p inches 9 pays 100", 4);
        Check.due("wet 100", Check.tell(new PostScripts(), "letter wet 100;place p rank 99 room 9"), 1);
        Check.due("bid bounds", Check.tell(new PostScripts(), HEAD + ";bid h p inches 9 pays 99;bid h p inches 1 pays 0"), 2);
    }

    private static void many() {
        Check.faultyAtLast(FULL + ";place", 5);
        Check.faultyAtLast(FULL + ";over", 5);
        Check.faultyAtLast(FULL + ";hand", 5);
        Check.faultyAtLast(FULL + ";matter", 5);
        Check.faulty(FULL + ";place a rank 1 room 9", 5, FULL.length() + 1);
        String wrote = "";
        for (int i = 0; i < 8; i++) {
            wrote += ";wrote h e m do inches 1";
        }
        Check.faultyAtLast(FULL + wrote + ";wrote", 5);
        Check.faultyAtLast(HEAD + ";hidden p;hidden p;hidden q;hidden", 5);
        String bids = "";
        for (int i = 0; i < 6; i++) {
            bids += ";bid h e inches 1 pays 1";
        }
        Check.faultyAtLast(FULL + bids + ";bid", 5);
        Check.due("six bids", Check.tell(new PostScripts(), FULL + bids), 6);
    }

    private static void lacks() {
        Check.faulty("place p rank 1 room 1", 6, 0);
        Check.faulty("  over", 6, 2);
        Check.faulty("bid", 6, 0);
        Check.faulty("hidden;letter wet 0", 6, 0);
        Check.faulty("letter wet 0", 6, 12);
        Check.faulty("letter wet 0;hand h purse 1;matter m  ", 6, 38);
    }

    private static void full() {
        Check.faultyAtLast(HEAD + ";wrote h p m do inches 3", 7);
        Check.faultyAtLast(HEAD + ";wrote h q m do inches 2", 7);
        Check.faultyAtLast(HEAD + ";wrote h p m do inches 1;wrote h p m do inches 2", 7);
        Check.due("room for both", Check.tell(new PostScripts(), HEAD + ";wrote h p m do inches 1;wrote h p m do inches 1"), 2);
        Check.due("hidden takes none", Check.tell(new PostScripts(), HEAD + ";hidden q;wrote h q m do inches 1"), 2);
    }

    private static void sizes() {
        PostScripts x = Check.told("letter wet 33;place p rank 1 room 9;place q rank 2 room 1;place r rank 3 room 2;over p q;over p r;"
                + "hand h purse 5;matter m;matter n;wrote h p m do inches 1;hidden p;hidden q;hidden r;done m doubt;"
                + "bid h p inches 1 pays 1;bid h p inches 1 pays 1;bid h p inches 1 pays 1;bid h p inches 1 pays 1");
        int[] want = {33, 3, 2, 1, 2, 1, 3, 1, 4, 0, 0, 0};
        for (int what = 0; what < want.length; what++) {
            Check.due("size " + what, x.size(what), want[what]);
        }
        x.write(0, 0, 0, true, 1);
        x.strike(1);
        x.fold(0);
        x.image();
        x.image();
        x.feed(1, 1, 1, 1, 1);
        Check.due("lines now", x.size(5), 2);
        Check.due("acts", x.size(9), 3);
        Check.due("images", x.size(10), 2);
        Check.due("tape", x.size(11), 20);
        x.done(5);
        Check.due("size leaves trouble", x.size(99), -1);
        Check.due("trouble", x.trouble(), 1);
        Check.due("trouble again", x.trouble(), 1);
        x.done(0);
        Check.due("no trouble", x.trouble(), 0);
    }
}
