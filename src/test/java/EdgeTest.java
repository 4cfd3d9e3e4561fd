import java.nio.file.Path;

/**
 * The boundary cases of the promises 1 to 29 and of the Terms. Each test stands under the sentence
 * of the document that it is due by, and at the end each word of these sections has been quoted.
 */
public final class EdgeTest {
    public static void main(String[] args) throws Exception {
        Due due = new Due("EdgeTest");
        Doc doc = new Doc(Path.of("../shared/DOC.md"));
        Edges edges = new Edges(due, doc);
        TermEdges.all(edges);
        TextEdges.all(edges);
        AskedEdges.all(edges);
        TilingEdges.all(edges);
        NecklaceEdges.all(edges);
        DeedEdges.all(edges);
        HeardEdges.all(edges);
        ImageEdges.all(edges);
        due.is("promises of the document", doc.promises(), 29);
        for (String words : doc.unquoted()) {
            due.holds("a test stands under '" + words + "'", false);
        }
        due.end();
    }
}
