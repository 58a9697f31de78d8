/** The document sentence by sentence: what each says of an edge has a test of its own. */
public final class EdgesTest {
    public static void main(String[] args) {
        TermsEdges.all();
        CellEdges.all();
        TextEdges.all();
        HouseEdges.all();
        WouldBeEdges.all();
        SheetEdges.all();
        ImageEdges.all();
        Edge.end();
    }
}
