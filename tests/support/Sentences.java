import java.io.IOException;
import java.lang.reflect.InvocationTargetException;
import java.lang.reflect.Method;
import java.nio.file.Files;
import java.nio.file.Path;
import java.util.Arrays;
import java.util.Comparator;
import java.util.List;
import java.util.stream.Collectors;

/** Runs tests of which each holds the class to one sentence of the document, and bears the number of its promise. */
final class Sentences {
    private static final Path DOCUMENT = Path.of("../shared/DOC.md");
    private static final String NAME = "promise([0-9]{2})_[a-z]\\w*";

    private Sentences() { }

    static List<Method> of(Class<?> suite) {
        return Arrays.stream(suite.getDeclaredMethods()).filter(m -> m.isAnnotationPresent(Says.class))
                .sorted(Comparator.comparing(Method::getName)).collect(Collectors.toList());
    }

    static int promiseOf(Method test) {
        return test.getName().matches(NAME) ? Integer.parseInt(test.getName().replaceAll(NAME, "$1")) : 0;
    }

    static void run(Class<?> suite) throws IOException {
        String document = plain(Files.readString(DOCUMENT));
        List<Method> tests = of(suite);
        for (Method test : tests) {
            Crowd.at(test.getName());
            String words = test.getAnnotation(Says.class).value();
            Crowd.due("the name is a promise's", promiseOf(test) >= 1 && promiseOf(test) <= 44, true);
            Crowd.due("the document says: " + words, document.contains(plain(words)), true);
            int before = Crowd.asked();
            call(test);
            Crowd.due("something is asked", Crowd.asked() > before, true);
        }
        System.out.println(suite.getName() + ": " + tests.size() + " sentences");
        Crowd.close(suite.getName());
    }

    private static void call(Method test) {
        try {
            test.invoke(null);
        } catch (InvocationTargetException e) {
            Crowd.due("threw " + e.getCause(), true, false);
        } catch (IllegalAccessException e) {
            Crowd.due("can't be called: " + e, true, false);
        }
    }

    /** Where a line ends is no matter. */
    private static String plain(String text) {
        return text.replaceAll("\\s+", " ");
    }
}
