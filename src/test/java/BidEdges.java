/** The edges of promises 29 to 31, and of TAKEN in Terms III. */
final class BidEdges {
    private static final String HEAD = "letter wet 0;place p rank 1 room 3;place q rank 2 room 2;hand h purse 10;hand i purse 0;hand j purse 99;matter m";

    private BidEdges() {
    }

    static void run() {
        room();
        purse();
        least();
        taken();
        paid();
        worthOf();
    }

    private static void room() {
        Doc.says("III", "no more inches at a place than ROOM");
        Check.due("just the room", Check.told(HEAD + ";bid h p inches 3 pays 1").taken(), 1);
        Check.due("an inch more", Check.told(HEAD + ";bid h p inches 4 pays 1").taken(), 0);
        Check.due("just the room by two hands", Check.told(HEAD + ";bid h p inches 2 pays 1;bid j p inches 1 pays 1").taken(), 3);
        Check.due("an inch more by two hands", Check.told(HEAD + ";bid h p inches 2 pays 1;bid j p inches 2 pays 2").taken(), 2);
        Check.due("each place has its own", Check.told(HEAD + ";bid h p inches 3 pays 1;bid j q inches 2 pays 2").taken(), 3);
        PostScripts x = Check.told(HEAD + ";bid h p inches 3 pays 1;bid h q inches 2 pays 1");
        x.write(0, 0, 0, true, 1);
        Check.due("less room now", x.taken(), 2);
        x.strike(0);
        Check.due("struck lines have their inches", x.taken(), 2);
        x.fold(1);
        Check.due("folded places have their room", x.taken(), 2);
        x.undo();
        x.undo();
        x.undo();
        Check.due("undone", x.taken(), 3);
    }

    private static void purse() {
        Doc.says("III", "no hand paying more than his purse");
        Check.due("just the purse", Check.told(HEAD + ";bid h p inches 1 pays 10").taken(), 1);
        Check.due("one more", Check.told(HEAD + ";bid h p inches 1 pays 11").taken(), 0);
        Check.due("just the purse at two places", Check.told(HEAD + ";bid h p inches 1 pays 4;bid h q inches 1 pays 6").taken(), 3);
        Check.due("one more at two places", Check.told(HEAD + ";bid h p inches 1 pays 5;bid h q inches 1 pays 6").taken(), 2);
        Check.due("an empty purse", Check.told(HEAD + ";bid i p inches 1 pays 1").taken(), 0);
        Check.due("a full one", Check.told(HEAD + ";bid j p inches 1 pays 99").paid(), 99);
    }

    private static void least() {
        Doc.says("III", "most paid; of like ones the least bits");
        Check.due("the first of two", Check.told(HEAD + ";bid h p inches 3 pays 5;bid j p inches 3 pays 5").taken(), 1);
        Check.due("two lower bits ahead of a higher one", Check.told(HEAD + ";bid h p inches 1 pays 3;bid h p inches 1 pays 4;bid j p inches 3 pays 7").taken(), 3);
        Check.due("a lower bit ahead of two", Check.told(HEAD + ";bid j p inches 3 pays 7;bid h p inches 1 pays 3;bid h p inches 1 pays 4").taken(), 1);
        Check.due("one that pays nothing isn't taken", Check.told(HEAD + ";bid j p inches 1 pays 0;bid h p inches 1 pays 1").taken(), 2);
        Check.due("most paid ahead of all", Check.told(HEAD + ";bid h p inches 1 pays 3;bid h p inches 1 pays 4;bid j p inches 3 pays 8").taken(), 4);
    }

    private static void taken() {
        Doc.says(29, "TAKEN, as bits of bids. NONE: 1 (no LETTER).");
        PostScripts six = Check.told("letter wet 0;place p rank 1 room 6;hand h purse 99" + ";bid h p inches 1 pays 1".repeat(6));
        Check.granted(six, "all six", six.taken(), 63);
        PostScripts places = Check.told("letter wet 0;place a rank 1 room 1;place b rank 2 room 1;place c rank 3 room 1;place d rank 4 room 1;"
                + "place e rank 5 room 1;place f rank 6 room 1;hand h purse 9;hand i purse 9;hand j purse 9;hand k purse 9;"
                + "bid h f inches 2 pays 5;bid k f inches 1 pays 4;bid j e inches 1 pays 9");
        Check.granted(places, "the last place, the last hand", places.taken(), 6);
        PostScripts no = Check.told(HEAD);
        Check.granted(no, "no bids", no.taken(), 0);
        PostScripts free = Check.told(HEAD + ";bid i p inches 1 pays 0");
        Check.granted(free, "for nothing", free.taken(), 0);
        PostScripts none = new PostScripts();
        Check.refused(none, "no letter", none.taken(), -1, 1);
    }

    private static void paid() {
        Doc.says(30, "What is paid by that. NONE: 1 (no LETTER).");
        PostScripts most = Check.told("letter wet 0;place p rank 1 room 9;hand h purse 99;hand i purse 99;hand j purse 99;hand k purse 99"
                + ";bid h p inches 1 pays 99;bid i p inches 1 pays 99;bid j p inches 1 pays 99;bid k p inches 1 pays 99");
        Check.granted(most, "the most", most.paid(), 396);
        PostScripts no = Check.told(HEAD);
        Check.granted(no, "no bids", no.paid(), 0);
        PostScripts none = new PostScripts();
        Check.refused(none, "no letter", none.paid(), -1, 1);
    }

    private static void worthOf() {
        Doc.says(31, "By how much less would be paid without a bid, by those TAKEN best. NONE: 1 (no such bid).");
        PostScripts x = Check.told(HEAD + ";bid j p inches 3 pays 9;bid j p inches 1 pays 8;bid i p inches 1 pays 1;bid j q inches 1 pays 20");
        Check.granted(x, "another one would be taken", x.worthOf(0), 1);
        Check.granted(x, "it isn't taken", x.worthOf(1), 0);
        Check.granted(x, "it can't be taken", x.worthOf(2), 0);
        Check.granted(x, "all of what it pays", x.worthOf(3), 20);
        Check.granted(x, "nothing is dropped", x.taken(), 9);
        int[] no = {-1, 4, 6, 32, Integer.MIN_VALUE, Integer.MAX_VALUE};
        for (int b : no) {
            Check.refused(x, "worthOf " + b, x.worthOf(b), -1, 1);
        }
        PostScripts bare = Check.told(HEAD);
        Check.refused(bare, "no bids", bare.worthOf(0), -1, 1);
        PostScripts none = new PostScripts();
        Check.refused(none, "no letter", none.worthOf(0), -1, 1);
    }
}
