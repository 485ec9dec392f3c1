import java.io.IOException;
import java.nio.file.Path;
import java.util.List;

/** Stage 2: for each sentence of the document that names an edge a test of its own, and no words of it that no test quotes. */
public final class EdgesTest {
    private EdgesTest() {
    }

    public static void main(String[] args) throws IOException {
        Check check = new Check("EdgesTest");
        Doc doc = new Doc(Path.of("..", "shared", "DOC.md"));
        List<Edges> all = List.of(new TextEdges(check, doc), new HouseEdges(check, doc), new SecondEdges(check, doc), new ActEdges(check, doc),
            new DayEdges(check, doc), new PlanEdges(check, doc), new CountEdges(check, doc));
        for (Edges edges : all) {
            edges.run();
        }
        for (int part = Doc.TERMS; part <= Doc.PROMISES; part++) {
            for (String words : doc.unquoted(part)) {
                check.due(Doc.name(part) + ": no test quotes \"" + words + "\", whether one does", 0, 1);
            }
        }
        check.end();
    }
}
