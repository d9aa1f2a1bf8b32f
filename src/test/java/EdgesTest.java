import java.io.IOException;
import java.util.List;

/** Each sentence of the terms and of promises 1 to 32 has a test of its own, and holds. */
public final class EdgesTest {
    public static void main(String[] args) throws IOException {
        Checks checks = new Checks("EdgesTest");
        Document document = Document.read();
        List<Edges> all = List.of(
            new RefusalEdges(checks, document), new BoardEdges(checks, document), new StanceEdges(checks, document),
            new DieEdges(checks, document), new TourEdges(checks, document), new RowEdges(checks, document),
            new BlockEdges(checks, document), new HomeEdges(checks, document));
        for (Edges edges : all) {
            edges.ask();
        }
        checks.holds("the document has 32 promises", document.hasPromises(32));
        for (String words : document.unquoted()) {
            checks.holds("a test of its own for " + words, false);
        }
        checks.end();
    }
}
