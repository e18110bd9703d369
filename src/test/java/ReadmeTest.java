import java.lang.reflect.Method;
import java.lang.reflect.Modifier;
import java.nio.file.Files;
import java.nio.file.Path;
import java.util.List;
import java.util.Map;
import java.util.Set;
import java.util.TreeMap;
import java.util.TreeSet;
import java.util.regex.Matcher;
import java.util.regex.Pattern;

/** What README.md tells must be so: its examples' answers, its settings, what each call refuses. */
public final class ReadmeTest {
    private static final Pattern MADE = Pattern.compile("FilledForOne (\\w+) = new FilledForOne\\(\\);");
    private static final Pattern FED = Pattern.compile("for \\(char letter : \"(.*)\"\\.toCharArray\\(\\)\\) \\{");
    private static final Pattern CALL = Pattern.compile("(\\w+)\\.(\\w+)\\(([-0-9, ]*)\\); +// (-?[0-9]+): .+");
    private static final Pattern ROW = Pattern.compile("\\| `(\\w+)\\(([a-z, ]*)\\)` \\| .* \\|([-0-9 ]*)\\|");
    private static final Pattern SETTING = Pattern.compile("\\| (\\d) [A-Z]+ \\| .* \\| (\\d+) \\.\\. (\\d+) \\| (\\d+) \\|");
    private static final Pattern COUNTED = Pattern.compile("\\| -(\\d) [A-Z]+ \\| .* \\| `count\\((\\d+)\\)` \\|");
    private static final Pattern STATEMENT = Pattern.compile("- `.*: `([a-z0-9=]+;)`");
    /** Numbers at and beyond the bounds of every call. */
    private static final int[] TRIED = {-1, 0, 1, 2, 6, 7, 9, 12, 61, 100, 256};

    private final Map<String, Method> face = new TreeMap<>();
    private final List<String> lines;

    private ReadmeTest(List<String> lines) {
        this.lines = lines;
        for (Method m : FilledForOne.class.getDeclaredMethods()) {
            if (Modifier.isPublic(m.getModifiers())) {
                face.put(m.getName(), m);
            }
        }
    }

    public static void main(String[] args) throws Exception {
        ReadmeTest test = new ReadmeTest(Files.readAllLines(Path.of("README.md")));
        test.examples();
        test.settings();
        test.statements();
        test.calls();
        test.counted();
        test.tests();
        Check.end();
    }

    private void examples() throws Exception {
        Set<String> shown = new TreeSet<>();
        FilledForOne x = new FilledForOne();
        String name = "";
        boolean inside = false;
        for (String line : lines) {
            Matcher made = MADE.matcher(line);
            Matcher fed = FED.matcher(line);
            Matcher call = CALL.matcher(line);
            if (line.startsWith("```")) {
                inside = line.equals("```java");
            } else if (inside && made.matches()) {
                x = new FilledForOne();
                name = made.group(1);
            } else if (inside && fed.matches()) {
                Office.feed(x, fed.group(1));
                shown.add("feed");
            } else if (inside && call.matches()) {
                Check.due("README: the object of " + line, call.group(1).equals(name) ? 1 : 0, 1);
                Check.due("README: " + line, answer(x, call.group(2), call.group(3)), Integer.parseInt(call.group(4)));
                shown.add(call.group(2));
            } else if (inside) {
                boolean feeds = line.equals("    " + name + ".feed(letter);") || line.equals("}");
                Check.due("README: a line that this test can read: " + line, feeds ? 1 : 0, 1);
            }
        }
        Check.due("README: calls in the examples, many", shown.size() >= 20 ? 1 : 0, 1);
    }

    private int answer(FilledForOne x, String call, String numbers) throws Exception {
        Object[] values = List.of(numbers.split(", ")).stream().filter(n -> !n.isEmpty()).map(Integer::valueOf)
                .toArray();
        return (Integer) face.get(call).invoke(x, values);
    }

    private void settings() {
        int told = 0;
        for (String line : lines) {
            Matcher m = SETTING.matcher(line);
            if (m.matches()) {
                FilledForOne x = new FilledForOne();
                int setting = Integer.parseInt(m.group(1));
                int least = Integer.parseInt(m.group(2));
                int greatest = Integer.parseInt(m.group(3));
                Check.due("README: in its order " + line, setting, told);
                Check.due("README: at first " + line, x.count(20 + setting), Integer.parseInt(m.group(4)));
                Check.due("README: below " + line, x.set(setting, least - 1), -4);
                Check.due("README: above " + line, x.set(setting, greatest + 1), -6);
                x.set(setting, least);
                Check.due("README: from .. to " + line, x.set(setting, greatest), least);
                told++;
            }
        }
        Check.due("README: settings", told, 8);
    }

    /** Each form's example, behind a comer that the third of them speaks of. */
    private void statements() {
        int told = 0;
        for (String line : lines) {
            Matcher m = STATEMENT.matcher(line);
            if (m.matches()) {
                Check.due("README: " + line, Office.tell(new FilledForOne(), "c00000105;" + m.group(1)), 2);
                told++;
            }
        }
        Check.due("README: forms of statements", told, 3);
    }

    private void calls() throws Exception {
        Set<String> told = new TreeSet<>();
        for (String line : lines) {
            Matcher m = ROW.matcher(line);
            if (m.matches()) {
                Method call = face.get(m.group(1));
                int parameters = m.group(2).isEmpty() ? 0 : m.group(2).split(", ").length;
                Check.due("README: the class has " + m.group(1), call != null ? 1 : 0, 1);
                if (call == null) {
                    continue;
                }
                Check.due("README: parameters of " + m.group(1), parameters, call.getParameterCount());
                Set<String> refusals = new TreeSet<>(List.of(m.group(3).trim().split(" ")));
                refusals.remove("");
                Check.due("README: refused " + refusals + " by " + call.getName() + ", which refuses "
                        + refusalsOf(call), refusals.equals(refusalsOf(call)) ? 1 : 0, 1);
                told.add(m.group(1));
            }
        }
        Check.due("README: all calls of the face", told.equals(face.keySet()) ? 1 : 0, 1);
    }

    /** In every state and with every choice of the numbers tried, each on an object of its own. */
    private static Set<String> refusalsOf(Method call) throws Exception {
        Set<String> met = new TreeSet<>();
        int choices = (int) Math.pow(TRIED.length, call.getParameterCount());
        for (State state : State.values()) {
            for (int choice = 0; choice < choices; choice++) {
                gather(state.make(), call, choice, met);
            }
        }
        FilledForOne thirsty = Office.of("s0=2;c00000330;");
        for (int choice = 0; choice < choices && call.getParameterCount() == 1; choice++) {
            gather(thirsty, call, choice, met);
        }
        return met;
    }

    private static void gather(FilledForOne x, Method call, int choice, Set<String> met) throws Exception {
        Object[] values = new Object[call.getParameterCount()];
        int left = choice;
        for (int i = 0; i < values.length; i++) {
            values[i] = TRIED[left % TRIED.length];
            left /= TRIED.length;
        }
        int[] before = refusals(x);
        call.invoke(x, values);
        int[] behind = refusals(x);
        for (int i = 1; i < before.length; i++) {
            if (behind[i] != before[i]) {
                met.add("-" + i);
            }
        }
    }

    private static int[] refusals(FilledForOne x) {
        int[] counts = new int[7];
        for (int i = 1; i < counts.length; i++) {
            counts[i] = x.count(10 + i);
        }
        return counts;
    }

    private void counted() {
        int told = 0;
        for (String line : lines) {
            Matcher m = COUNTED.matcher(line);
            if (m.matches()) {
                Check.due("README: " + line, Integer.parseInt(m.group(2)), 10 + Integer.parseInt(m.group(1)));
                told++;
            }
        }
        Check.due("README: refusals", told, 5);
    }

    /** Whoever adds a test tells of it; whoever takes one away strikes it out. */
    private void tests() throws Exception {
        Set<String> there = new TreeSet<>();
        try (var files = Files.list(Path.of("src/test/java"))) {
            files.map(f -> f.getFileName().toString()).filter(f -> f.endsWith("Test.java"))
                    .forEach(f -> there.add(f.substring(0, f.length() - ".java".length())));
        }
        Set<String> told = new TreeSet<>();
        String below = String.join("\n", lines.subList(lines.indexOf("## How to run the tests"), lines.size()));
        Matcher m = Pattern.compile("`(\\w+Test)`").matcher(below);
        while (m.find()) {
            told.add(m.group(1));
        }
        Check.due("README: the tests are " + there, told.equals(there) ? 1 : 0, 1);
    }
}
