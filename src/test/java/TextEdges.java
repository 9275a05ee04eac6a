/** The edges of Terms I: the tape, tokens, lines of a letter, and their faults. */
final class TextEdges {
    private static final String HEAD = "letter wet 0;place p rank 1 room 2;place q rank 2 room 1;hand h purse 5;matter m";
    private static final String[] LINES = {"place r rank 3 room 1", "over p q", "hand i purse 1", "matter n", "wrote h p m do inches 1", "hidden p",
        "done m doubt", "bid h p inches 1 pays 1"};
    private static final String[] LINE_WORDS = {"letter", "place", "over", "hand", "matter", "wrote", "hidden", "done", "bid"};
    private static final String SIX = "letter wet 0;place a rank 1 room 9;place b rank 2 room 9;place c rank 3 room 9;place d rank 4 room 9;"
            + "place e rank 5 room 9;place f rank 6 room 9";

    private TextEdges() {
    }

    static void run() {
        tape();
        blanks();
        words();
        wholes();
        semicolons();
        theLetter();
        places();
        overs();
        handsAndMatters();
        wrote();
        hiddenAndDone();
        bids();
        names();
        form();
        ends();
        untold();
        again();
        bounds();
        many();
        lacks();
        full();
        fromTheLeft();
        leastNumber();
    }

    private static String blanks(int n) {
        return " ".repeat(n);
    }

    private static void tape() {
        Doc.says("I", "THE TAPE has 900 bytes");
        String first = "letter wet 0;place p rank 1 room";
        Check.fine(first + blanks(899 - first.length()) + "7", 1);
        Check.faulty(first + blanks(899 - first.length()) + "!", 1, 899);
        Check.faulty(first + blanks(900 - first.length()), 1, 900);
        Check.faulty("letter wet 0" + blanks(888), 6, 900);
    }

    private static void blanks() {
        Doc.says("I", "blanks, 32, part TOKENS and mean nothing else");
        Check.fine("letter wet 0;place p rank 1 room 1", 1);
        Check.fine("   letter    wet  0  ;   place p  rank   1 room 1    ", 1);
        Check.fine("letter wet0;place p rank1room1", 1);
        Check.faulty("letter wet 0;pla ce p rank 1 room 1", 1, 13);
        Check.faulty("letter wet 1 0;place p rank 1 room 1", 1, 13);
        Doc.says("I", "the first byte that begins no TOKEN");
        for (int sign = 0; sign < 256; sign++) {
            boolean token = sign == ' ' || sign == ';' || sign >= 'a' && sign <= 'z' || sign >= '0' && sign <= '9';
            if (!token) {
                Check.faulty("letter" + (char) sign + "wet 0;place p rank 1 room 1", 1, 6);
                Check.faulty((char) sign + "letter wet 0;place p rank 1 room 1", 1, 0);
                Check.faulty("letter wet 0;place p rank 1 room 1" + (char) sign, 1, 34);
            }
        }
        Check.faulty("letter7wet 0;place p rank 1 room 1", 1, 6);
        Check.faulty("letter;wet 0;place p rank 1 room 1", 1, 6);
        Check.faulty("letterwet 0;place p rank 1 room 1", 1, 0);
    }

    private static void words() {
        Doc.says("I", "WORDS of 1 to 8 small letters that stand together");
        Check.fine("letter wet 0;place a rank 1 room 1;hidden a", 1);
        Check.fine("letter wet 0;place z rank 1 room 1;hidden z", 1);
        Check.fine("letter wet 0;place abcdefgz rank 1 room 1;hidden abcdefgz", 1);
        Check.faulty("letter wet 0;place abcdefgzi rank 1 room 1", 1, 19);
        Check.faulty("letter wet 0;place p rank 1 room 1;hidden abcdefgzi", 1, 42);
        Check.faulty("letter wet 0;place p rank 1 room 1;abcdefghi", 1, 35);
        Check.faulty("letter wet 0;place p rank 1 room 1;hidden" + "p".repeat(100), 1, 35);
        Check.faulty("letter wet 0;place A rank 1 room 1", 1, 19);
        Check.faulty("letter wet 0;place pQ rank 1 room 1", 1, 20);
        Check.faulty("letter wet 0;Place p rank 1 room 1", 1, 13);
        // Names are told apart by each of their letters, and by how many there are.
        Check.fine("letter wet 0;place abcdefgh rank 1 room 1;place abcdefgi rank 2 room 1;place abcdefg rank 3 room 1;place bbcdefgh rank 4 room 1", 4);
        Check.faultyAtLast("letter wet 0;place pp rank 1 room 1;hidden p", 2);
        Check.faultyAtLast("letter wet 0;place p rank 1 room 1;hidden pp", 2);
    }

    private static void wholes() {
        Doc.says("I", "WHOLES of 1 to 3 digits that do");
        String[] sevens = {"7", "07", "007"};
        for (String seven : sevens) {
            PostScripts x = Check.told("letter wet " + seven + ";place p rank " + seven + " room " + seven);
            Check.due("wet " + seven, x.size(0), 7);
            Check.due("rank " + seven, x.place(0, 0), 7);
            Check.due("room " + seven, x.place(0, 1), 7);
        }
        Check.faulty("letter wet 0007;place p rank 1 room 1", 1, 11);
        Check.faulty("letter wet 0;place p rank 0001 room 1", 1, 26);
        Check.faulty("letter wet 0;place p rank 1 room 0001", 1, 33);
        Check.faulty("letter wet " + "9".repeat(40), 1, 11);
        Check.faulty("letter wet 4294967296;place p rank 1 room 1", 1, 11);
    }

    private static void semicolons() {
        Doc.says("I", "single ones of ;): LINE {; LINE}");
        Check.faulty(";letter wet 0;place p rank 1 room 1", 1, 0);
        Check.faulty("letter wet 0;;place p rank 1 room 1", 1, 13);
        Check.faulty("letter wet 0; ;place p rank 1 room 1", 1, 14);
        Check.faulty("letter wet 0;place p rank 1 room 1;", 1, 35);
        Check.faulty("letter wet 0;place p rank 1 room 1;;", 1, 35);
        Check.faulty("letter wet 0 place p rank 1 room 1", 1, 13);
        Check.faulty("letter wet 0;place p rank 1 room 1 hidden p", 1, 35);
    }

    private static void theLetter() {
        Doc.says("I", "letter wet WHOLE (0 .. 100 in a hundred), ahead of all others");
        String place = ";place p rank 1 room 1";
        Check.due("dry", Check.told("letter wet 0" + place).size(0), 0);
        Check.due("nearly dry", Check.told("letter wet 1" + place).size(0), 1);
        Check.due("nearly wet", Check.told("letter wet 99" + place).size(0), 99);
        Check.due("wet", Check.told("letter wet 100" + place).size(0), 100);
        Check.faulty("letter wet 101" + place, 4, 11);
        Check.faulty("letter wet 999" + place, 4, 11);
    }

    private static void places() {
        Doc.says("I", "place NAME rank WHOLE room WHOLE (0 .. 99, unlike; 1 .. 9 inches; up to 6)");
        String first = "letter wet 0;place p rank ";
        PostScripts x = Check.told(first + "0 room 1;place q rank 99 room 9");
        Check.due("least rank", x.place(0, 0), 0);
        Check.due("least room", x.place(0, 1), 1);
        Check.due("highest rank", x.place(1, 0), 99);
        Check.due("most room", x.place(1, 1), 9);
        Check.faultyAtLast(first + "100", 4);
        Check.faultyAtLast(first + "0 room 0", 4);
        Check.faultyAtLast(first + "0 room 10", 4);
        Check.faultyAtLast(first + "0 room 1;place q rank 0", 3);
        Check.faultyAtLast(first + "99 room 1;place q rank 99", 3);
        Check.fine(SIX, 6);
        Check.faulty(SIX + ";place g rank 7 room 9", 5, SIX.length() + 1);
    }

    private static void overs() {
        Doc.says("I", "or over PLACE PLACE (unlike; each two once in whatever order; up to 6)");
        Check.faultyAtLast(HEAD + ";over p p", 3);
        Check.faultyAtLast(HEAD + ";over q q", 3);
        Check.fine(HEAD + ";over p q", 2);
        Check.fine(HEAD + ";over q p", 2);
        Check.faultyAtLast(HEAD + ";over p q;over p q", 3);
        Check.faultyAtLast(HEAD + ";over p q;over q p", 3);
        Check.faultyAtLast(HEAD + ";over q p;over p q", 3);
        Check.faultyAtLast(HEAD + ";over q p;over q p", 3);
        String six = SIX + ";over a b;over b c;over c d;over d e;over e f;over f a";
        Check.due("six of them", Check.told(six).size(2), 6);
        Check.faulty(six + ";over a c", 5, six.length() + 1);
        Check.faultyAtLast(SIX + ";over a b;over b c;over c d;over d e;over e f;over f e", 3);
        Check.faultyAtLast(SIX + ";over a b;over b c;over c d;over d e;over e f;over b a", 3);
        Check.fine(SIX + ";over a b;over a c;over b c;over c d", 6);
    }

    private static void handsAndMatters() {
        Doc.says("I", "hand NAME purse WHOLE (0 .. 99; up to 4)");
        String place = "letter wet 0;place p rank 1 room 9";
        PostScripts x = Check.told(place + ";hand h purse 0;hand i purse 99");
        Check.due("empty purse", x.hand(0, 0), 0);
        Check.due("full purse", x.hand(1, 0), 99);
        Check.faultyAtLast(place + ";hand h purse 100", 4);
        String four = place + ";hand h purse 0;hand i purse 0;hand j purse 0;hand k purse 0";
        Check.due("four hands", Check.told(four).size(3), 4);
        Check.faulty(four + ";hand l purse 0", 5, four.length() + 1);
        Doc.says("I", "or matter NAME (up to 4)");
        String matters = place + ";matter h;matter i;matter j;matter k";
        Check.due("four matters", Check.told(matters).size(4), 4);
        Check.faulty(matters + ";matter l", 5, matters.length() + 1);
    }

    private static void wrote() {
        Doc.says("I", "wrote HAND PLACE MATTER SAY inches WHOLE (SAY: do, or not; 1 .. 9, no more than there is room by now; up to 8)");
        String nine = "letter wet 0;place p rank 1 room 9;place q rank 2 room 9;hand h purse 0;matter m";
        Check.due("do", Check.told(nine + ";wrote h p m do inches 1").line(0, 3), 1);
        Check.due("not", Check.told(nine + ";wrote h p m not inches 1").line(0, 3), 0);
        Check.faultyAtLast(nine + ";wrote h p m doubt", 1);
        Check.faultyAtLast(nine + ";wrote h p m n", 1);
        Check.due("one inch", Check.told(nine + ";wrote h p m do inches 1").line(0, 4), 1);
        Check.due("nine inches", Check.told(nine + ";wrote h p m do inches 9").line(0, 4), 9);
        Check.faultyAtLast(nine + ";wrote h p m do inches 0", 4);
        Check.faultyAtLast(nine + ";wrote h p m do inches 10", 4);
        Check.fine(nine + ";wrote h p m do inches 4;wrote h q m do inches 9;wrote h p m do inches 5", 2);
        Check.faultyAtLast(nine + ";wrote h p m do inches 4;wrote h q m do inches 9;wrote h p m do inches 6", 7);
        Check.faultyAtLast(nine + ";wrote h p m do inches 9;wrote h p m do inches 1", 7);
        String eight = nine + ";wrote h p m do inches 1".repeat(8);
        Check.due("eight lines", Check.told(eight).size(5), 8);
        Check.faulty(eight + ";wrote h p m do inches 1", 5, eight.length() + 1);
    }

    private static void hiddenAndDone() {
        Doc.says("I", "hidden PLACE (up to 3)");
        String three = HEAD + ";hidden p;hidden q;hidden q";
        Check.due("three hidden", Check.told(three).size(6), 3);
        Check.faulty(three + ";hidden p", 5, three.length() + 1);
        Check.due("hidden ones need no room", Check.told(HEAD + ";wrote h q m do inches 1;hidden q;hidden q;hidden q").place(1, 2), 0);
        Doc.says("I", "or done MATTER SAY, or done MATTER doubt (each MATTER once)");
        String[] says = {"do", "not", "doubt"};
        for (String say : says) {
            Check.due("done " + say, Check.told(HEAD + ";done m " + say).size(7), 1);
            for (String other : says) {
                Check.faulty(HEAD + ";done m " + say + ";done m " + other, 3, HEAD.length() + say.length() + 14);
            }
        }
        Check.faultyAtLast(HEAD + ";done m maybe", 1);
        String four = HEAD + ";matter n;matter o;matter s;done s do;done m not;done o doubt;done n do";
        Check.due("each once", Check.told(four).size(7), 4);
        Check.faultyAtLast(four + ";done s", 3);
        Check.faultyAtLast(four + ";done n", 3);
    }

    private static void bids() {
        Doc.says("I", "bid HAND PLACE inches WHOLE pays WHOLE (1 .. 9; 0 .. 99; up to 6)");
        Check.fine(HEAD + ";bid h p inches 1 pays 0", 2);
        Check.fine(HEAD + ";bid h p inches 9 pays 99", 2);
        Check.faultyAtLast(HEAD + ";bid h p inches 0", 4);
        Check.faultyAtLast(HEAD + ";bid h p inches 10", 4);
        Check.faultyAtLast(HEAD + ";bid h p inches 9 pays 100", 4);
        String six = HEAD + ";bid h p inches 9 pays 9".repeat(6);
        Check.due("six bids, whatever the room", Check.told(six).size(8), 6);
        Check.faulty(six + ";bid h p inches 9 pays 9", 5, six.length() + 1);
    }

    private static void names() {
        Doc.says("I", "NAMES are WORDS but letter, place, over, hand, matter, wrote, hidden, done, bid");
        for (String word : LINE_WORDS) {
            Check.faultyAtLast(HEAD + ";place " + word, 1);
            Check.faultyAtLast(HEAD + ";hand " + word, 1);
            Check.faultyAtLast(HEAD + ";matter " + word, 1);
            Check.faultyAtLast(HEAD + ";over " + word, 1);
            Check.faultyAtLast(HEAD + ";over p " + word, 1);
            Check.faultyAtLast(HEAD + ";wrote " + word, 1);
            Check.faultyAtLast(HEAD + ";wrote h " + word, 1);
            Check.faultyAtLast(HEAD + ";wrote h p " + word, 1);
            Check.faultyAtLast(HEAD + ";hidden " + word, 1);
            Check.faultyAtLast(HEAD + ";done " + word, 1);
            Check.faultyAtLast(HEAD + ";bid " + word, 1);
            Check.faultyAtLast(HEAD + ";bid h " + word, 1);
        }
        String[] others = {"wet", "rank", "room", "purse", "do", "not", "doubt", "inches", "pays", "places", "lette", "b", "bids"};
        for (String word : others) {
            Check.fine("letter wet 0;place " + word + " rank 1 room 1;hidden " + word, 1);
            Check.fine(HEAD + ";matter " + word + ";done " + word + " doubt", 2);
            Check.fine(HEAD + ";hand " + word + " purse 1;wrote " + word + " p m do inches 1", 2);
        }
        Doc.says("I", "each told once, ahead of its use");
        Check.faulty("letter wet 0;hidden p;place p rank 1 room 1", 2, 20);
        Check.faulty("letter wet 0;place p rank 1 room 1;over p q;place q rank 2 room 1", 2, 42);
        Check.faulty("letter wet 0;place p rank 1 room 1;done m do;matter m", 2, 40);
        Check.faulty("letter wet 0;place p rank 1 room 1;bid h p inches 1 pays 1;hand h purse 1", 2, 39);
        Check.faulty("letter wet 0;hand h purse 0;place h rank 1 room 1", 3, 34);
    }

    /** A text whose token at that place is another one, in which whatever was behind it stays. */
    private static String with(String line, int token, String other) {
        String[] tokens = line.split(" ");
        tokens[token] = other;
        return String.join(" ", tokens);
    }

    private static int placeOf(String line, int token) {
        int at = 0;
        for (int i = 0; i < token; i++) {
            at = line.indexOf(' ', at) + 1;
        }
        return at;
    }

    private static void form() {
        Doc.says("I", "or TOKEN with which no LETTER goes on");
        for (String line : LINES) {
            String[] tokens = line.split(" ");
            for (int i = 0; i < tokens.length; i++) {
                int at = HEAD.length() + 1 + placeOf(line, i);
                String wrongKind = Character.isDigit(tokens[i].charAt(0)) ? "word" : "7";
                Check.faulty(HEAD + ";" + with(line, i, wrongKind), 1, at);
                Check.faulty(HEAD + ";" + with(line, i, ";"), 1, at);
                Check.faulty(HEAD + ";" + with(line, i, "-"), 1, at);
                Check.faulty(HEAD + ";" + with(line, i, "letter"), i == 0 ? 3 : 1, at);
                boolean fixed = "rank room purse inches pays do doubt".contains(tokens[i]) && tokens[i].length() > 1;
                if (fixed || i == 0) {
                    Check.faulty(HEAD + ";" + with(line, i, "p"), 1, at);
                    Check.faulty(HEAD + ";" + with(line, i, tokens[i] + "x"), 1, at);
                    Check.faulty(HEAD + ";" + with(line, i, tokens[i].substring(1)), 1, at);
                    Check.faulty(HEAD + ";" + with(line, i, "x" + tokens[i].substring(1)), 1, at);
                    Check.faulty(HEAD + ";" + with(line, i, tokens[i].substring(0, tokens[i].length() - 1) + "x"), 1, at);
                }
            }
            Check.faulty(HEAD + ";" + line + " p", 1, HEAD.length() + 2 + line.length());
            Check.faulty(HEAD + ";" + line + " 5", 1, HEAD.length() + 2 + line.length());
            Check.faulty(HEAD + ";" + line + " place s rank 9 room 9", 1, HEAD.length() + 2 + line.length());
        }
        Check.faulty("dear wet 0", 1, 0);
        Check.faulty("0", 1, 0);
        Check.faulty("letter dry 0", 1, 7);
        Check.faulty("letter wets 0", 1, 7);
        Check.faulty("letter we 0", 1, 7);
        Check.faulty("letter 0", 1, 7);
        Check.faulty("letter wet wet", 1, 11);
        Check.faulty("letter wet 0 0", 1, 13);
    }

    private static void ends() {
        Doc.says("I", "(the end: its place)");
        Check.faulty("", 1, 0);
        Check.faulty(" ", 1, 1);
        Check.faulty("letter", 1, 6);
        Check.faulty("letter wet", 1, 10);
        Check.faulty("letter wet   ", 1, 13);
        Check.faulty(HEAD + ";", 1, HEAD.length() + 1);
        for (String line : LINES) {
            String[] tokens = line.split(" ");
            for (int i = 1; i < tokens.length; i++) {
                String cut = HEAD + ";" + line.substring(0, placeOf(line, i) - 1);
                Check.faulty(cut, 1, cut.length());
                Check.faulty(cut + "  ", 1, cut.length() + 2);
            }
        }
    }

    private static void untold() {
        Doc.says("I", "2 a NAME that isn't told, or is of another sort than must stand there; at it");
        String[] places = {"over ", "over p ", "wrote h ", "hidden ", "bid h "};
        for (String line : places) {
            for (String name : new String[] {"x", "h", "m", "rank", "do"}) {
                Check.faultyAtLast(HEAD + ";" + line + name, 2);
            }
        }
        String[] hands = {"wrote ", "bid "};
        for (String line : hands) {
            for (String name : new String[] {"x", "p", "m", "purse", "not"}) {
                Check.faultyAtLast(HEAD + ";" + line + name, 2);
            }
        }
        String[] matters = {"wrote h p ", "done "};
        for (String line : matters) {
            for (String name : new String[] {"x", "p", "h", "doubt"}) {
                Check.faultyAtLast(HEAD + ";" + line + name, 2);
            }
        }
    }

    private static void again() {
        Doc.says("I", "3 a NAME told again; at it");
        for (String name : new String[] {"p", "q", "h", "m"}) {
            Check.faultyAtLast(HEAD + ";place " + name, 3);
            Check.faultyAtLast(HEAD + ";hand " + name, 3);
            Check.faultyAtLast(HEAD + ";matter " + name, 3);
        }
        Doc.says("I", "a rank told already; at the WHOLE");
        Check.faultyAtLast(HEAD + ";place r rank 1", 3);
        Check.faultyAtLast(HEAD + ";place r rank 2", 3);
        Check.faultyAtLast(HEAD + ";place r rank 002", 3);
        Check.fine(HEAD + ";place r rank 3 room 2", 3);
        Check.faultyAtLast(SIX.substring(0, SIX.lastIndexOf(';')) + ";place f rank 5", 3);
        Doc.says("I", "a second PLACE of over that is the first, or of which with that one it is told already");
        Check.faulty(HEAD + ";over p p", 3, HEAD.length() + 8);
        Check.faulty(HEAD + ";over p q;over q p", 3, HEAD.length() + 17);
        Doc.says("I", "a MATTER of done told already; at it");
        Check.faulty(HEAD + ";done m do;done m do", 3, HEAD.length() + 16);
        Check.faulty(HEAD + ";done m do;done m ?", 3, HEAD.length() + 16);
        Doc.says("I", "a second letter: at that WORD");
        Check.faulty("letter wet 0;letter", 3, 13);
        Check.faulty("letter wet 0;letter wet 0;place p rank 1 room 1", 3, 13);
        Check.faulty(HEAD + ";letter wet 0", 3, HEAD.length() + 1);
        Check.faulty(HEAD + ";letter 5", 3, HEAD.length() + 1);
    }

    private static void bounds() {
        Doc.says("I", "4 a WHOLE out of bounds; at it");
        Check.faultyAtLast("letter wet 101", 4);
        Check.faulty("letter wet 101 101", 4, 11);
        Check.faultyAtLast(HEAD + ";place r rank 100", 4);
        Check.faultyAtLast(HEAD + ";place r rank 999", 4);
        Check.faultyAtLast(HEAD + ";place r rank 3 room 0", 4);
        Check.faultyAtLast(HEAD + ";place r rank 3 room 000", 4);
        Check.faultyAtLast(HEAD + ";place r rank 3 room 010", 4);
        Check.faultyAtLast(HEAD + ";hand i purse 100", 4);
        Check.faultyAtLast(HEAD + ";wrote h p m do inches 0", 4);
        Check.faultyAtLast(HEAD + ";wrote h p m do inches 10", 4);
        Check.faultyAtLast(HEAD + ";bid h p inches 0", 4);
        Check.faultyAtLast(HEAD + ";bid h p inches 10", 4);
        Check.faultyAtLast(HEAD + ";bid h p inches 1 pays 100", 4);
        Check.fine(HEAD + ";bid h p inches 009 pays 099", 2);
    }

    private static void many() {
        Doc.says("I", "5 MANY: a LINE more of its sort than there is room for, at its first WORD");
        String fours = SIX + ";hand h purse 0;hand i purse 0;hand j purse 0;hand k purse 0;matter m;matter n;matter o;matter s";
        Check.faultyAtLast(fours + ";place", 5);
        Check.faultyAtLast(fours + ";hand", 5);
        Check.faultyAtLast(fours + ";matter", 5);
        Check.faulty(fours + ";place 7", 5, fours.length() + 1);
        Check.faulty(fours + ";place a", 5, fours.length() + 1);
        Check.faulty(fours + ";hand h;", 5, fours.length() + 1);
        Check.faulty(fours + ";matter bid", 5, fours.length() + 1);
        Check.faultyAtLast(HEAD + ";hidden p;hidden p;hidden p;hidden", 5);
        Check.faultyAtLast(SIX + ";over a b;over a c;over a d;over a e;over a f;over b c;over", 5);
        Check.faultyAtLast(fours + ";wrote h a m do inches 1".repeat(8) + ";wrote", 5);
        Check.faultyAtLast(fours + ";bid h a inches 1 pays 1".repeat(6) + ";bid", 5);
    }

    private static void lacks() {
        Doc.says("I", "6 LACKS: any LINE ahead of the letter; at its WORD");
        for (String line : LINES) {
            Check.faulty(line, 6, 0);
            Check.faulty("  " + line + ";" + HEAD, 6, 2);
            Check.faulty(line.substring(0, line.indexOf(' ')), 6, 0);
        }
        Doc.says("I", "at the end: no place");
        Check.faulty("letter wet 0", 6, 12);
        Check.faulty("letter wet 0  ", 6, 14);
        Check.faulty("letter wet 0;hand h purse 1", 6, 27);
        Check.faulty("letter wet 0;matter m;done m doubt", 6, 34);
    }

    private static void full() {
        Doc.says("I", "7 FULL: inches of wrote within bounds, but more than there is room; at the WHOLE");
        Check.fine(HEAD + ";wrote h p m do inches 2", 2);
        Check.faultyAtLast(HEAD + ";wrote h p m do inches 3", 7);
        Check.faultyAtLast(HEAD + ";wrote h p m do inches 9", 7);
        Check.faultyAtLast(HEAD + ";wrote h p m do inches 10", 4);
        Check.faultyAtLast(HEAD + ";wrote h q m do inches 2", 7);
        Check.faultyAtLast(HEAD + ";wrote h q m do inches 1;wrote h q m do inches 1", 7);
        Check.faulty(HEAD + ";wrote h p m do inches 3 3", 7, HEAD.length() + 23);
    }

    private static void fromTheLeft() {
        Doc.says("I", "FAULTS, the first that is met from the left");
        Check.faulty("letter wet 101;place p rank 100 room 0;?", 4, 11);
        Check.faulty(HEAD + ";over x ?", 2, HEAD.length() + 6);
        Check.faulty(HEAD + ";place p rank 1", 3, HEAD.length() + 7);
        Check.faulty(HEAD + ";place r rank 1 room 0", 3, HEAD.length() + 14);
        Check.faulty(HEAD + ";place r rank 3 room 0;letter", 4, HEAD.length() + 21);
        Check.faulty(HEAD + ";wrote p h do", 2, HEAD.length() + 7);
        Check.faulty(HEAD + ";wrote h p m do inches 3;over p p", 7, HEAD.length() + 23);
        Check.faulty(HEAD + ";bid h p inches 0 pays 100", 4, HEAD.length() + 16);
        Check.faulty("place p rank 100 ?", 6, 0);
        Check.faulty("? place p", 1, 0);
        Check.faulty("letter wet 0;? letter", 1, 13);
    }

    private static void leastNumber() {
        Doc.says("I", "of one place the least number");
        // The end of a line that is cut, with no place told: FORM ahead of LACKS.
        Check.faulty("letter wet 0;", 1, 13);
        Check.faulty("letter wet 0;hand h", 1, 19);
        // A word that begins no line, ahead of the letter: FORM ahead of LACKS.
        Check.faulty("dear", 1, 0);
        // A name that is of another sort, where it would be the first again: 2 ahead of 3.
        Check.faultyAtLast(HEAD + ";over p h", 2);
        // A word that is no name isn't told: FORM ahead of 2.
        Check.faultyAtLast(HEAD + ";over p bid", 1);
        // Out of bounds and more than there is room: 4 ahead of 7.
        Check.faultyAtLast(HEAD + ";wrote h q m do inches 10", 4);
        Check.faultyAtLast(HEAD + ";wrote h q m do inches 1;wrote h q m do inches 99", 4);
    }
}
