/** Every sentence of the document that names a boundary, each with a test of its own, in the document's order. */
public final class EdgesTest {
    public static void main(String[] args) {
        Edge edge = new Edge("EdgesTest");
        new EdgesOfTerms(edge).run();
        new EdgesOfFields(edge).run();
        new EdgesOfDrafts(edge).run();
        new EdgesOfSeals(edge).run();
        new EdgesOfTrials(edge).run();
        new Refusals(edge).run();
        edge.end();
    }
}
