import java.lang.reflect.Method;
import java.util.ArrayList;
import java.util.Comparator;
import java.util.List;
import java.util.Random;

/** Runs of calls by seeds on the program and on the model: every answer must be the same. */
public final class ModelTest {
    private static final int RUNS = 3000;
    private static final int CALLS = 512;

    private static final List<Method> CALLS_OF_FACE = new ArrayList<>();

    private final FilledForOne program = new FilledForOne();
    private final Model model = new Model();
    private final Random random;
    private final List<String> said = new ArrayList<>();

    private ModelTest(long seed) {
        random = new Random(seed);
    }

    public static void main(String[] args) throws Exception {
        for (Method m : Model.class.getDeclaredMethods()) {
            if (java.lang.reflect.Modifier.isPublic(m.getModifiers())) {
                CALLS_OF_FACE.add(m);
            }
        }
        CALLS_OF_FACE.sort(Comparator.comparing(Method::getName));
        Check.due("methods of the face", CALLS_OF_FACE.size(), 28);
        for (long seed = 1; seed <= RUNS; seed++) {
            if (!new ModelTest(seed).run()) {
                Check.due("run of seed " + seed, 1, 0);
                break;
            }
        }
        Check.end();
    }

    private boolean run() throws Exception {
        if (random.nextBoolean() && !told(Model.crowd(random))) {
            return false;
        }
        while (said.size() < CALLS) {
            int pick = random.nextInt(12);
            boolean same;
            if (pick == 0) {
                same = told(Model.someOffice(random, model.count(1)));
            } else if (pick < 4) {
                same = both("go", 1 + random.nextInt(random.nextBoolean() ? 3 : 20));
            } else {
                Method m = CALLS_OF_FACE.get(random.nextInt(CALLS_OF_FACE.size()));
                same = both(m.getName(), arguments(m));
            }
            if (!same) {
                said.forEach(System.out::println);
                return false;
            }
        }
        return true;
    }

    private boolean told(String office) throws Exception {
        boolean same = true;
        for (char c : office.toCharArray()) {
            same = same && both("feed", (int) c);
        }
        return same && both("office");
    }

    private Object[] arguments(Method m) {
        Object[] values = new Object[m.getParameterCount()];
        for (int i = 0; i < values.length; i++) {
            values[i] = number(m.getName(), i);
        }
        return values;
    }

    private int number(String name, int place) {
        int far = random.nextInt(40);
        if (far == 0) {
            return random.nextInt();
        }
        if (far == 1) {
            return -1;
        }
        if (name.equals("count")) {
            return random.nextInt(30);
        }
        if (name.equals("feed")) {
            return random.nextInt(260);
        }
        if (name.equals("row")) {
            return random.nextBoolean() ? model.kettle(0, 0) : random.nextInt(102);
        }
        if (name.equals("seeds") && place == 1) {
            return random.nextInt();
        }
        boolean minutes = name.equals("times") || name.equals("better") || name.equals("ferry") && place == 1;
        if (minutes || name.equals("urn")) {
            return random.nextInt(minutes ? 63 : 101);
        }
        boolean figure = name.equals("kind") && place == 2 || name.equals("set") && place == 1 || name.equals("fits");
        return random.nextInt(figure || random.nextInt(8) == 0 ? 13 : 6);
    }

    private boolean both(String name, Object... values) throws Exception {
        Class<?>[] types = new Class<?>[values.length];
        java.util.Arrays.fill(types, int.class);
        int want = (Integer) Model.class.getMethod(name, types).invoke(model, values);
        int got = (Integer) FilledForOne.class.getMethod(name, types).invoke(program, values);
        String call = name + java.util.Arrays.toString(values);
        said.add(call + " " + got);
        Check.due(call, got, want);
        return got == want;
    }
}
