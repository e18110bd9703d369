import java.lang.reflect.Constructor;
import java.lang.reflect.Field;
import java.lang.reflect.Method;
import java.lang.reflect.Modifier;
import java.nio.file.Files;
import java.nio.file.Path;
import java.util.List;
import java.util.Set;
import java.util.TreeSet;
import java.util.regex.Matcher;
import java.util.regex.Pattern;

/** The face of the class, and what ../shared/LANGUAGE.md rules out, as far as it shows from outside. */
public final class LanguageTest {
    private static final Set<String> FACE = new TreeSet<>(List.of("feed 1", "office 0", "comer 2", "kind 3",
            "kettle 2", "set 2", "go 1", "anew 0", "line 1", "rest 1", "when 1", "best 2", "rounds 1", "marks 1",
            "second 0", "urn 1", "least 1", "ferry 2", "times 1", "better 1", "follow 0", "row 1", "judge 0",
            "fits 1", "seeds 3", "image 0", "restore 0", "count 1"));
    private static final List<String> RULED_OUT = List.of("throw", "throws", "try", "catch", "synchronized",
            "assert", "import", "package", "protected", "Exception", "System\\.(?!arraycopy)", "->", "::",
            "\\w+Exact", "Object", "static \\{", "@\\w+", "\" \\+|\\+ \"",
            "\\b(Integer|Long|Math)\\.[A-Z]");
    private static final int LONGEST_METHOD = 60;

    private LanguageTest() {
    }

    public static void main(String[] args) throws Exception {
        face();
        classes();
        source();
        Check.end();
    }

    private static void face() {
        Class<?> c = FilledForOne.class;
        Check.due("public and final", c.getModifiers(), Modifier.PUBLIC | Modifier.FINAL);
        Set<String> met = new TreeSet<>();
        for (Method m : c.getDeclaredMethods()) {
            boolean open = !Modifier.isPrivate(m.getModifiers());
            if (open) {
                met.add(m.getName() + " " + m.getParameterCount());
                Check.due(m + " answers an int", m.getReturnType() == int.class ? 1 : 0, 1);
                Check.due(m + " is public alone", m.getModifiers(), Modifier.PUBLIC);
            }
            boolean named = FACE.stream().anyMatch(f -> f.startsWith(m.getName() + " "));
            Check.due(m + " bears a public name only if public", open || !named ? 1 : 0, 1);
        }
        Check.due("the face is " + met, met.equals(FACE) ? 1 : 0, 1);
        Constructor<?>[] made = c.getDeclaredConstructors();
        Check.due("constructors", made.length, 1);
        Check.due("constructor public", made[0].getModifiers(), Modifier.PUBLIC);
        Check.due("constructor without parameters", made[0].getParameterCount(), 0);
    }

    private static void classes() {
        Class<?>[] inside = FilledForOne.class.getDeclaredClasses();
        Check.due("classes in the file, at most twelve", inside.length <= 11 ? 1 : 0, 1);
        for (Class<?> c : inside) {
            Check.due(c + " is static", Modifier.isStatic(c.getModifiers()) ? 1 : 0, 1);
            Check.due(c + " is not public", Modifier.isPublic(c.getModifiers()) ? 1 : 0, 0);
            fields(c);
        }
        fields(FilledForOne.class);
    }

    private static void fields(Class<?> c) {
        int own = 0;
        for (Field f : c.getDeclaredFields()) {
            if (Modifier.isStatic(f.getModifiers())) {
                Check.due(f + " is final", Modifier.isFinal(f.getModifiers()) ? 1 : 0, 1);
            } else {
                own++;
            }
        }
        Check.due(c + " has at most twenty fields", own <= 20 ? 1 : 0, 1);
    }

    private static void source() throws Exception {
        String text = Files.readString(Path.of("src/main/java/FilledForOne.java"));
        String code = text.replaceAll("(?s)/\\*.*?\\*/", "").replaceAll("//[^\n]*", "");
        for (String word : RULED_OUT) {
            boolean plain = word.matches("\\w+");
            Matcher m = Pattern.compile(plain ? "\\b" + word + "\\b" : word).matcher(code);
            Check.due("the source has " + word, m.find() ? 1 : 0, 0);
        }
        int start = 0;
        String[] lines = text.split("\n");
        for (int i = 0; i < lines.length; i++) {
            if (lines[i].matches(" {4}(?: {4})?[a-zA-Z].*\\) \\{")) {
                start = i;
            }
            if (lines[i].matches(" {4}(?: {4})?\\}")) {
                Check.due("lines of " + lines[start].trim(), i - start <= LONGEST_METHOD
                        ? 1 : 0, 1);
            }
        }
    }
}
