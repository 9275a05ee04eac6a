/** Promises 46 to 51: written, struck, folded, undone, images. */
public final class ActTest {
    private static final String TEXT = "letter wet 0;place p rank 1 room 9;place q rank 2 room 1;hand h purse 0;hand i purse 0;matter m;matter n;"
            + "wrote h p m do inches 2";

    public static void main(String[] args) {
        writing();
        striking();
        folding();
        undoing();
        images();
        Check.end("ActTest");
    }

    private static void writing() {
        PostScripts x = Check.told(TEXT);
        Check.refused(x, "write", x.write(1, 1, 0, false, 1), 1, 0);
        int[] want = {1, 1, 0, 0, 1, 0, 1, 0};
        for (int what = 0; what < want.length; what++) {
            Check.due("line " + what, x.line(1, what), want[what]);
        }
        Check.due("done", x.done(0), 0);
        Check.due("room", x.place(1, 2), 0);
        Check.refused(x, "no room", x.write(0, 1, 0, true, 1), -1, 3);
        Check.refused(x, "no room for eight", x.write(0, 0, 0, true, 8), -1, 3);
        Check.refused(x, "hand", x.write(2, 0, 0, true, 0), -1, 1);
        Check.refused(x, "hand -1", x.write(-1, 0, 0, true, 1), -1, 1);
        Check.refused(x, "place", x.write(0, 2, 0, true, 1), -1, 1);
        Check.refused(x, "place -1", x.write(0, -1, 0, true, 1), -1, 1);
        Check.refused(x, "matter", x.write(0, 0, 2, true, 1), -1, 1);
        Check.refused(x, "matter -1", x.write(0, 0, -1, true, 1), -1, 1);
        x.fold(1);
        Check.refused(x, "inches 0", x.write(0, 1, 0, true, 0), -1, 2);
        Check.refused(x, "inches 10", x.write(0, 1, 0, true, 10), -1, 2);
        Check.refused(x, "folded", x.write(0, 1, 0, true, 9), -1, 5);
        for (int k = 2; k < 8; k++) {
            Check.due("write " + k, x.write(0, 0, 1, true, 1), k);
        }
        Check.refused(x, "eight lie", x.write(0, 0, 1, true, 1), -1, 3);
        Check.due("room is left", x.place(0, 2), 1);
        PostScripts y = Check.told(TEXT);
        Check.due("all the room", y.write(0, 0, 1, true, 7), 1);
        Check.due("none is left", y.place(0, 2), 0);
    }

    private static void striking() {
        PostScripts x = Check.told(TEXT);
        Check.refused(x, "strike -1", x.strike(-1) ? 1 : 0, 0, 1);
        Check.refused(x, "strike 1", x.strike(1) ? 1 : 0, 0, 1);
        x.fold(0);
        Check.refused(x, "strike", x.strike(0) ? 1 : 0, 1, 0);
        Check.refused(x, "strike again", x.strike(0) ? 1 : 0, 0, 5);
        x.fold(0);
        Check.due("struck", x.done(0), -2);
        Check.due("room stays taken", x.place(0, 2), 7);
    }

    private static void folding() {
        PostScripts x = Check.told(TEXT);
        Check.refused(x, "fold", x.fold(0), 1, 0);
        Check.due("folded", x.done(0), -2);
        Check.refused(x, "unfold", x.fold(0), 0, 0);
        Check.due("unfolded", x.done(0), 1);
        Check.refused(x, "fold 2", x.fold(2), -1, 1);
        Check.refused(x, "fold -1", x.fold(-1), -1, 1);
        Check.due("both are acts", x.size(9), 2);
    }

    private static void undoing() {
        PostScripts x = Check.told(TEXT);
        Check.refused(x, "nothing yet", x.undo() ? 1 : 0, 0, 6);
        x.write(1, 0, 0, false, 3);
        x.strike(1);
        x.fold(0);
        x.strike(0);
        x.fold(7);
        Check.due("refused ones aren't acts", x.size(9), 4);
        Check.refused(x, "undo strike", x.undo() ? 1 : 0, 1, 0);
        Check.due("not struck", x.line(0, 5), 0);
        x.undo();
        Check.due("not folded", x.place(0, 5), 0);
        Check.due("the other one is struck still", x.done(0), 1);
        x.undo();
        Check.due("not struck either", x.done(0), 0);
        x.undo();
        Check.due("not written", x.size(5), 1);
        Check.due("its room", x.place(0, 2), 7);
        Check.refused(x, "nothing left", x.undo() ? 1 : 0, 0, 6);
        Check.due("written anew", x.write(0, 0, 0, false, 1), 1);
        Check.due("not struck anew", x.line(1, 5), 0);
        PostScripts seventeen = Check.told(TEXT);
        seventeen.fold(1);
        seventeen.strike(0);
        for (int i = 0; i < 15; i++) {
            seventeen.fold(0);
        }
        Check.due("one more than are kept", seventeen.size(9), 16);
        for (int i = 0; i < 16; i++) {
            Check.due("undo " + i + " of sixteen", seventeen.undo(), true);
        }
        Check.due("the second is undone", seventeen.line(0, 5), 0);
        Check.due("the first isn't", seventeen.place(1, 5), 1);
        PostScripts many = Check.told(TEXT);
        many.strike(0);
        for (int i = 0; i < 17; i++) {
            many.fold(i % 2);
        }
        Check.due("sixteen are kept", many.size(9), 16);
        for (int i = 0; i < 16; i++) {
            Check.due("undo " + i, many.undo(), true);
        }
        Check.due("the oldest are not", many.undo(), false);
        Check.due("p stays folded", many.place(0, 5), 1);
        Check.due("q doesn't", many.place(1, 5), 0);
        Check.due("the line stays struck", many.line(0, 5), 1);
    }

    private static void images() {
        PostScripts x = Check.told(TEXT);
        Check.refused(x, "back to none", x.back(0) ? 1 : 0, 0, 1);
        Check.refused(x, "image", x.image(), 0, 0);
        x.write(1, 1, 0, false, 1);
        x.strike(0);
        x.fold(0);
        Check.due("image 1", x.image(), 1);
        Check.due("an image is no act", x.size(9), 3);
        x.undo();
        Check.due("undo leaves images", x.size(10), 2);
        Check.due("image 2", x.image(), 2);
        Check.refused(x, "image 3", x.image(), -1, 3);
        Check.refused(x, "back 3", x.back(3) ? 1 : 0, 0, 1);
        Check.refused(x, "back -1", x.back(-1) ? 1 : 0, 0, 1);
        Check.due("acts stay by a refusal", x.size(9), 2);
        Check.refused(x, "back 0", x.back(0) ? 1 : 0, 1, 0);
        Check.due("lines as by it", x.size(5), 1);
        Check.due("done as by it", x.done(0), 1);
        Check.due("room as by it", x.place(1, 2), 1);
        Check.refused(x, "nothing to undo", x.undo() ? 1 : 0, 0, 6);
        Check.due("all images stay", x.size(10), 3);
        x.write(0, 1, 1, true, 1);
        Check.due("back 1", x.back(1), true);
        Check.due("line as by it", x.line(1, 2), 0);
        Check.due("struck as by it", x.line(0, 5), 1);
        Check.due("folded as by it", x.place(0, 5), 1);
        Check.due("nothing to undo then", x.size(9), 0);
        x.feed(1, 2, 3, 4, 5);
        Check.due("back 2", x.back(2), true);
        Check.due("not folded as by it", x.place(0, 5), 0);
        Check.due("the tape is no part of it", x.size(11), 20);
        x.strike(1);
        Check.due("back 2 again", x.back(2), true);
        Check.due("an image isn't written on", x.line(1, 5), 0);
    }
}
