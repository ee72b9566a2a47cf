import java.io.IOException;
import java.lang.reflect.Method;
import java.nio.file.Files;
import java.util.Set;
import java.util.TreeSet;

/** Each edge's test quotes the document, and there are no words of it that none quotes. */
public final class SentencesTest {
    private static final Due due = new Due("SentencesTest");
    private static final Class<?>[] EDGES = {Edges0TermsTest.class, Edges1CallersTest.class, Edges2AirTest.class,
        Edges3GoodRowsTest.class, Edges4HeardTest.class, Edges5SheetsTest.class};

    public static void main(String[] args) throws IOException {
        if (!Files.exists(Document.PLACE)) {
            System.out.println("SentencesTest: there is no " + Document.PLACE + ", nothing was looked up");
            return;
        }
        Document document = new Document();
        Set<Integer> promises = new TreeSet<>();
        for (Class<?> tests : EDGES) {
            for (Method edge : Edges.of(tests)) {
                promises.add(Edges.promiseOf(edge));
                due.holds(edge.getName() + " quotes a sentence", Edges.saidBy(edge).length > 0);
                for (String words : Edges.saidBy(edge)) {
                    due.holds(edge.getName() + " quotes the document: " + words,
                            document.quote(Edges.promiseOf(edge), words));
                }
            }
        }
        for (int promise = 1; promise <= Edges.LAST_PROMISE; promise++) {
            due.holds("promise " + promise + " has an edge's test", promises.contains(promise));
        }
        for (String words : document.unquoted()) {
            due.holds("a test quotes " + words, false);
        }
        due.end();
    }
}
