/** Promises 29 to 31: which bids to take. */
public final class BidTest {
    private static final String HEAD = "letter wet 0;place p rank 1 room 3;place q rank 2 room 2;hand h purse 10;hand i purse 5;matter m";

    public static void main(String[] args) {
        PostScripts x = Check.told(HEAD + ";bid h p inches 2 pays 6;bid h q inches 2 pays 5;bid i p inches 2 pays 5;"
                + "bid i q inches 1 pays 4;bid h p inches 1 pays 4;bid i q inches 1 pays 1");
        Check.due("taken", x.taken(), 57);
        Check.due("paid", x.paid(), 15);
        int[] worth = {1, 0, 0, 1, 4, 1};
        for (int b = 0; b < 6; b++) {
            Check.due("worthOf " + b, x.worthOf(b), worth[b]);
        }
        Check.refused(x, "worthOf 6", x.worthOf(6), -1, 1);
        Check.refused(x, "worthOf -1", x.worthOf(-1), -1, 1);
        x.fold(0);
        Check.refused(x, "folded places have room", x.taken(), 57, 0);
        x.write(0, 1, 0, true, 2);
        Check.due("less room", x.taken(), 17);
        Check.due("less is paid", x.paid(), 10);
        x.strike(0);
        Check.due("struck takes room", x.paid(), 10);

        PostScripts like = Check.told(HEAD + ";bid h p inches 3 pays 0;bid i p inches 3 pays 5;bid h p inches 3 pays 5;bid h q inches 9 pays 9");
        Check.due("the least bits", like.taken(), 2);
        Check.due("no less without it", like.worthOf(1), 0);
        PostScripts purse = Check.told(HEAD + ";bid i p inches 1 pays 6;bid h p inches 1 pays 7;bid h q inches 1 pays 4");
        Check.due("no more than the purse", purse.taken(), 2);
        Check.due("what it is worth", purse.worthOf(1), 3);
        PostScripts alone = Check.told(HEAD + ";bid h p inches 3 pays 9;bid h p inches 1 pays 8");
        Check.due("the first alone", alone.taken(), 1);
        Check.due("the first is worth", alone.worthOf(0), 1);
        PostScripts edge = Check.told(HEAD + ";bid h p inches 3 pays 10;bid i q inches 2 pays 5");
        Check.due("just room and purse", edge.taken(), 3);
        PostScripts none = Check.told(HEAD);
        Check.refused(none, "no bids", none.taken(), 0, 0);
        Check.due("nothing is paid", none.paid(), 0);
        Check.refused(none, "worthOf none", none.worthOf(0), -1, 1);
        PostScripts y = new PostScripts();
        Check.refused(y, "no letter: taken", y.taken(), -1, 1);
        Check.refused(y, "no letter: paid", y.paid(), -1, 1);
        Check.refused(y, "no letter: worthOf", y.worthOf(0), -1, 1);
        Check.end("BidTest");
    }
}
