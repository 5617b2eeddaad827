import java.io.IOException;
import java.lang.reflect.Method;
import java.nio.file.Files;
import java.nio.file.Path;
import java.util.ArrayList;
import java.util.List;
import java.util.stream.Collectors;
import java.util.stream.Stream;

/** Each of the 44 promises has tests that bear its number, and its heading is the document's. */
public final class PromisesTest {
    private static final int LAST = 44;

    public static void main(String[] args) throws IOException, ClassNotFoundException {
        Crowd.at("promises");
        List<Method> tests = new ArrayList<>();
        for (String suite : suites()) {
            List<Method> those = Sentences.of(Class.forName(suite));
            Crowd.due(suite + " has tests", those.isEmpty(), false);
            tests.addAll(those);
        }
        String document = Files.readString(Path.of("../shared/DOC.md"));
        for (int i = 1; i <= LAST; i++) {
            int promise = i;
            Crowd.due("heading " + i, document.contains("## Promise " + i + ": "), true);
            Crowd.due("tests of promise " + i, tests.stream().anyMatch(t -> Sentences.promiseOf(t) == promise), true);
        }
        Crowd.due("no further promise", document.contains("## Promise " + (LAST + 1)), false);
        Crowd.due("no two of a name", tests.stream().map(Method::getName).distinct().count(), tests.size());
        Crowd.close("PromisesTest");
    }

    private static List<String> suites() throws IOException {
        try (Stream<Path> files = Files.list(Path.of("tests"))) {
            return files.map(f -> f.getFileName().toString()).filter(n -> n.endsWith("EdgesTest.java"))
                    .map(n -> n.replace(".java", "")).sorted().collect(Collectors.toList());
        }
    }
}
