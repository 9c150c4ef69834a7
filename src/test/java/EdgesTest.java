/** The document's sentences that name a boundary, each with what is just inside it and just outside it. */
public final class EdgesTest {
    public static void main(String[] args) {
        StatusEdges.run();
        TrayEdges.run();
        TextEdges.run();
        VillageEdges.run();
        LotEdges.run();
        BestEdges.run();
        SwapEdges.run();
        GivenEdges.run();
        YearEdges.run();
        FullestEdges.run();
        SentenceEdges.run();
        Edge.everyWordIsQuoted();
        Check.end();
    }
}
