/** Every sentence of the document by itself, and that none of them is left out. */
public final class EdgesTest {
    public static void main(String[] args) {
        Document doc = new Document();
        RefusalEdges.all(doc);
        MarkEdges.all(doc);
        LawEdges.all(doc);
        CapeEdges.all(doc);
        ClockEdges.all(doc);
        TownEdges.all(doc);
        SheetEdges.all(doc);
        ImageEdges.all(doc);
        doc.end();
    }
}
