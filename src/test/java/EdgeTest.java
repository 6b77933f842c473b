/** The document sentence by sentence: for each one that names an edge a test of its own. What no test quotes is told. */
public final class EdgeTest {
    private EdgeTest() {
    }

    public static void main(String[] args) {
        Check check = new Check();
        new CrewEdges(check).test();
        new TapeEdges(check).test();
        new GrammarEdges(check).test();
        new FaultEdges(check).test();
        new LawEdges(check).test();
        new PieceEdges(check).test();
        new SaleEdges(check).test();
        new StepEdges(check).test();
        new OddsEdges(check).test();
        new PlanEdges(check).test();
        new TalkEdges(check).test();
        new ImageEdges(check).test();
        check.tellUnquoted();
        check.finish("EdgeTest");
    }
}
