import java.io.IOException;
import java.lang.reflect.Constructor;
import java.lang.reflect.Field;
import java.lang.reflect.Method;
import java.lang.reflect.Modifier;
import java.nio.file.Files;
import java.nio.file.Path;
import java.util.ArrayList;
import java.util.List;
import java.util.Set;
import java.util.TreeSet;
import java.util.regex.Matcher;
import java.util.regex.Pattern;

/** The class's face is the document's, and its form LANGUAGE.md's, as far as either can be seen from outside. */
public final class FaceTest {
    private static final String FACE = "about(int)int ask(int,int)int back(int)int bars()int boast(int)int buy(int)int by(int)int "
            + "course()int crowd(int)int dusk()int end(int)int fault(int)int feed(int,int,int,int,int)int first(int)int fits(int)int "
            + "gain(int)int hear()int image(int)int later(int)int leavers()int lies(int)int next()int objector(int,int)int odds(int,int)int "
            + "pause(int)int peril(int,int)int purchase(int,int)int queue()int ranks(int)int redo()boolean seen(int,int,boolean)int "
            + "soonest()int sure(int,int)int swap(int)int tarry(int)int threat(int)int trade(int,int)int undo()boolean untell(int)boolean "
            + "upset()int wedding()int weight()int when(int)int";
    private static final Set<String> CALLED = Set.of("Integer.bitCount", "Math.max", "Math.min", "System.arraycopy", "WORDS.charAt", "WORDS.length");

    public static void main(String[] args) throws IOException {
        face();
        members();
        words();
        Crowd.close("FaceTest");
    }

    private static void face() {
        Crowd.at("the public face");
        Class<Objections> c = Objections.class;
        Crowd.due("public final", Modifier.isPublic(c.getModifiers()) && Modifier.isFinal(c.getModifiers()), true);
        Set<String> face = new TreeSet<>();
        for (Method m : c.getDeclaredMethods()) {
            if (Modifier.isPublic(m.getModifiers())) {
                StringBuilder all = new StringBuilder(m.getName()).append('(');
                for (Class<?> p : m.getParameterTypes()) all.append(all.charAt(all.length() - 1) == '(' ? "" : ",").append(p.getName());
                face.add(all.append(')').append(m.getReturnType().getName()).toString());
            } else {
                Crowd.due(m + " is private", Modifier.isPrivate(m.getModifiers()), true);
            }
        }
        Crowd.due("the methods " + face, String.join(" ", face).equals(FACE), true);
        for (Field f : c.getDeclaredFields()) {
            boolean none = f.getName().equals("NONE");
            Crowd.due(f + " is private", Modifier.isPrivate(f.getModifiers()), !none);
            Crowd.due(f + " is public", Modifier.isPublic(f.getModifiers()), none);
        }
        Constructor<?>[] made = c.getDeclaredConstructors();
        Crowd.due("one constructor", made.length, 1);
        Crowd.due("without arguments", made[0].getParameterCount(), 0);
        Crowd.due("public", Modifier.isPublic(made[0].getModifiers()), true);
    }

    private static void members() {
        Crowd.at("LANGUAGE.md, members");
        List<Class<?>> all = new ArrayList<>(List.of(Objections.class.getDeclaredClasses()));
        Crowd.due("classes", all.size() <= 11, true);
        Set<String> names = new TreeSet<>();
        for (Method m : Objections.class.getDeclaredMethods()) if (Modifier.isPublic(m.getModifiers())) names.add(m.getName());
        all.add(Objections.class);
        for (Class<?> c : all) {
            Crowd.due(c + " is static", c == Objections.class || Modifier.isStatic(c.getModifiers()), true);
            int fields = 0;
            for (Field f : c.getDeclaredFields()) {
                boolean isStatic = Modifier.isStatic(f.getModifiers());
                fields += isStatic ? 0 : 1;
                Crowd.due(f + " is final", !isStatic || Modifier.isFinal(f.getModifiers()), true);
            }
            Crowd.due("fields of " + c, fields <= 20, true);
            for (Method m : c.getDeclaredMethods()) {
                Crowd.due("arguments of " + m, m.getParameterCount() <= 7, true);
                Crowd.due("name of " + m, names.contains(m.getName()) && !Modifier.isPublic(m.getModifiers()), false);
            }
        }
    }

    private static void words() throws IOException {
        Crowd.at("LANGUAGE.md, words");
        String text = Files.readString(Path.of("src/main/java/Objections.java")).replaceAll("(?s)/\\*.*?\\*/", "").replaceAll("//[^\n]*", "");
        String[] banned = {"throw", "throws", "try", "catch", "finally", "synchronized", "assert", "import", "package", "instanceof", "equals",
            "hashCode", "toString", "double", "float", "protected", "Object", "Exception", "MAX_VALUE", "MIN_VALUE"};
        for (String word : banned) {
            Crowd.due("the word " + word, Pattern.compile("\\b" + word + "\\b").matcher(text).find(), false);
        }
        for (String sign : new String[] {"->", "::", "@", "\" +", "+ \"", "while (true)", "for (;;)"}) {
            Crowd.due("the signs " + sign, text.contains(sign), false);
        }
        Matcher call = Pattern.compile("\\b[A-Z]\\w*\\.[a-z]\\w*").matcher(text);
        while (call.find()) {
            Crowd.due("the call of " + call.group(), CALLED.contains(call.group()) || text.contains("class " + call.group().split("\\.")[0] + " "), true);
        }
        int longest = 0;
        int begun = 0;
        String[] lines = text.split("\n");
        for (int i = 0; i < lines.length; i++) {
            if (lines[i].matches("( {4}| {8})(public|private|static|int|boolean|void|long|[A-Z]\\w*\\().*\\{")) begun = i;
            if (lines[i].matches(" {4}\\}| {8}\\}")) longest = Math.max(longest, lines[i].startsWith("     ") || begun == 0 ? i - begun + 1 : 0);
        }
        Crowd.due("the longest method, " + longest + " lines", longest > 10 && longest <= 60, true);
    }
}
