import java.io.IOException;

/** A test for each sentence of the document that names a boundary case, told with that sentence. */
public final class BoundaryTest {
    public static void main(String[] args) throws IOException {
        Document doc = new Document();
        new TextEdges(doc).run();
        new DoneEdges(doc).run();
        new AskingEdges(doc).run();
        new StrangerEdges(doc).run();
        new KindEdges(doc).run();
        new RefusedEdges(doc).run();
        doc.close("BoundaryTest");
    }
}
