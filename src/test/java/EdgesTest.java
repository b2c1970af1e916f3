import java.io.IOException;
import java.nio.file.Path;

/** Sentence by sentence: the boundaries that the document names; at the end no word of it may be without a test. */
public final class EdgesTest {
    private EdgesTest() {
    }

    public static void main(String[] args) throws IOException {
        Kit kit = new Kit("EdgesTest");
        Doc doc = new Doc(Path.of("../shared/DOC.md"));
        Edge edge = new Edge(kit, doc);
        TapeEdges.all(edge);
        TextEdges.all(edge);
        LawEdges.all(edge);
        CellarEdges.all(edge);
        OrderEdges.all(edge);
        BestEdges.all(edge);
        HelpEdges.all(edge);
        HeardEdges.all(edge);
        for (String words : doc.unquoted()) {
            kit.due("a test quotes " + words, false, true);
        }
        kit.close();
    }
}
