import java.io.IOException;
import java.lang.reflect.Method;
import java.lang.reflect.Modifier;
import java.nio.file.Files;
import java.nio.file.Path;
import java.util.regex.Matcher;
import java.util.regex.Pattern;

/** What README.md tells of the calls: its examples answer as they say there, and no call is forgotten. */
public final class ReadmeTest {
    private static final Pattern EXAMPLE = Pattern.compile("(?s)```java\n(.*?)```");
    private static final Pattern TELL = Pattern.compile("tell\\(x, \"(.*)\"\\);");
    private static final Pattern CALL = Pattern.compile("x\\.(\\w+)\\((.*?)\\);(?: // (-?\\d+|true|false)(?:[: ].*)?)?");

    public static void main(String[] args) throws IOException, ReflectiveOperationException {
        String text = Files.readString(Path.of("README.md"));
        Crowd.at("README.md");
        int examples = 0;
        Matcher example = EXAMPLE.matcher(text);
        while (example.find()) {
            if (example.group(1).startsWith("Objections x = new Objections();\n")) {
                examples++;
                run(example.group(1).split("\n"));
            }
        }
        Crowd.due("examples", examples, 2);
        for (Method call : Objections.class.getDeclaredMethods()) {
            if (Modifier.isPublic(call.getModifiers())) Crowd.due("names " + call, text.contains("`" + call.getName() + "`"), true);
        }
        Crowd.close("ReadmeTest");
    }

    private static void run(String[] lines) throws ReflectiveOperationException {
        Objections x = new Objections();
        for (int i = 1; i < lines.length; i++) {
            Matcher tell = TELL.matcher(lines[i]);
            Matcher call = CALL.matcher(lines[i]);
            if (tell.matches()) {
                Crowd.feed(x, tell.group(1));
            } else if (call.matches()) {
                String answer = answer(x, call.group(1), call.group(2).isEmpty() ? new String[0] : call.group(2).split(", "));
                Crowd.due(lines[i] + " answers as told, not " + answer, answer.equals(call.group(3)), true);
            } else {
                Crowd.due("a line that is none: " + lines[i], lines[i].startsWith("//"), true);
            }
        }
    }

    private static String answer(Objections x, String name, String[] told) throws ReflectiveOperationException {
        Class<?>[] types = new Class<?>[told.length];
        Object[] values = new Object[told.length];
        for (int i = 0; i < told.length; i++) {
            boolean truth = told[i].equals("true") || told[i].equals("false");
            types[i] = truth ? boolean.class : int.class;
            values[i] = truth ? (Object) Boolean.valueOf(told[i]) : (Object) Integer.decode(told[i]);
        }
        return String.valueOf(Objections.class.getMethod(name, types).invoke(x, values));
    }
}
