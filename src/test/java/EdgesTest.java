import java.lang.reflect.InvocationTargetException;
import java.lang.reflect.Method;
import java.nio.file.Path;
import java.util.ArrayList;
import java.util.Arrays;
import java.util.Comparator;
import java.util.List;

/**
 * A test for each sentence of ../shared/DOC.md that names an edge, beside the sentence and the number of its promise;
 * it runs in the project's folder. A sentence that the document holds no more is a fault, and so is an edge of the
 * document that no test quotes.
 */
public final class EdgesTest {
    private static final Class<?>[] EDGES = {HallEdges.class, WordsAndPlayersEdges.class, RoundsEdges.class,
        HintsEdges.class, LooksEdges.class, FitsEdges.class, SnapshotEdges.class, TextEdges.class};
    private static final int PROMISES = 26;

    public static void main(String[] args) throws Exception {
        Document document = new Document(Path.of("../shared/DOC.md"));
        int[] tests = new int[PROMISES + 1];
        for (Method test : tests()) {
            Sentence sentence = test.getAnnotation(Sentence.class);
            for (int promise : sentence.promise()) {
                tests[promise]++;
            }
            run(document, test, sentence);
        }
        for (int promise = 1; promise <= PROMISES; promise++) {
            Checks.isTrue("promise " + promise + " has a test", tests[promise] > 0);
        }
        for (String edge : document.edgesNotQuoted()) {
            Checks.isTrue("an edge without a test, " + edge, false);
        }
        System.out.println(tests().size() + " sentences");
        Checks.finish();
    }

    private static List<Method> tests() {
        List<Method> tests = new ArrayList<>();
        for (Class<?> one : EDGES) {
            Arrays.stream(one.getDeclaredMethods()).filter(method -> method.isAnnotationPresent(Sentence.class))
                .sorted(Comparator.comparing(Method::getName)).forEach(tests::add);
        }
        return tests;
    }

    private static void run(Document document, Method test, Sentence sentence) throws IllegalAccessException {
        String under = sentence.under().isEmpty() ? "Promise " + sentence.promise()[0] : sentence.under();
        Checks.about("promise " + Arrays.toString(sentence.promise()) + ", \"" + sentence.value() + "\": ");
        Checks.isTrue("it stands in the document", document.quote(under, sentence.value()));
        int before = Checks.checkedSoFar();
        try {
            test.invoke(null);
        } catch (InvocationTargetException thrown) {
            Checks.isTrue(test.getName() + " threw " + thrown.getCause(), false);
        }
        Checks.isTrue(test.getName() + " checks something", Checks.checkedSoFar() > before);
        Checks.about("");
    }
}
