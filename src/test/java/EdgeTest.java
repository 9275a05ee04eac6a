/** Each sentence of the document that names an edge, with a test of its own. */
public final class EdgeTest {
    private EdgeTest() {
    }

    public static void main(String[] args) {
        TextEdges.run();
        LetterEdges.run();
        NowEdges.run();
        LineEdges.run();
        HoldEdges.run();
        RingEdges.run();
        BidEdges.run();
        HiddenEdges.run();
        FootEdges.run();
        WetEdges.run();
        ActEdges.run();
        Doc.allQuoted();
        Check.end("EdgeTest");
    }
}
