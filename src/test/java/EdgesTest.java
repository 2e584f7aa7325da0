/**
 * Every boundary case that the document names, by a test of its own: each test quotes the words it
 * is of, and no clause of the document's terms, texts and promises is left without one.
 */
public final class EdgesTest {
    private EdgesTest() {
    }

    public static void main(String[] args) {
        HallEdges.run();
        SaleEdges.run();
        SeatEdges.run();
        ClerkEdges.run();
        SheetEdges.run();
        RefusalEdges.run();
        Edge.finish();
        Check.finish();
    }
}
