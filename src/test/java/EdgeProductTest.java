import java.lang.reflect.InvocationTargetException;
import java.lang.reflect.Method;
import java.lang.reflect.Modifier;
import java.util.Arrays;
import java.util.Map;

/**
 * Each method with each set of arguments that can be made of the edges of its parameters, after each of
 * some beginnings, to the class and to the model alike: so each two faults that can come together do.
 */
public final class EdgeProductTest {
    private static final int LEAST = Integer.MIN_VALUE;
    private static final int MOST = Integer.MAX_VALUE;
    private static final Map<String, int[]> EDGES = Map.ofEntries(
        Map.entry("row", new int[] {LEAST, -1, 0, 1, 2, 3, 4, MOST}),
        Map.entry("other", new int[] {LEAST, -1, 0, 1, 2, 3, 4, 99, 100, MOST}),
        Map.entry("part", new int[] {LEAST, -1, 0, 1, 2, 3, MOST}),
        Map.entry("whole", new int[] {LEAST, -1, 0, 1, 2, 3, MOST}),
        Map.entry("value", new int[] {-1, 0, 1, 5, 99, 100}),
        Map.entry("value2", new int[] {-1, 5, 99, 100}),
        Map.entry("mark", new int[] {-1, 0, 9, 10}),
        Map.entry("mark2", new int[] {-1, 5, 9, 10}),
        Map.entry("place", new int[] {LEAST, -1, 0, 1, 2, 3, 4, 5, 6, 30, 31, 32, MOST}),
        Map.entry("a", new int[] {LEAST, -1, 0, 1, 2, 4, 5, 30, 31, MOST}),
        Map.entry("b", new int[] {LEAST, -1, 0, 1, 2, 4, 5, 30, 31, MOST}),
        Map.entry("from", new int[] {LEAST, -1, 0, 1, 2, 5, 6, 31, 32, MOST}),
        Map.entry("to", new int[] {LEAST, -1, 0, 1, 2, 5, 6, 31, 32, MOST}),
        Map.entry("many", new int[] {LEAST, -1, 0, 1, 2, 26, 27, 31, 32, MOST}),
        Map.entry("by", new int[] {LEAST, LEAST + 1, -31, -5, -1, 0, 1, 2, 5, 31, 32, MOST}),
        Map.entry("what", new int[] {LEAST, -1, 0, 1, 2, 3, 4, 5, 6, MOST}));

    /** Row 0 of 5 cards, row 1 of 1, row 2 full, row 3 empty; walks begun, half gone and at their end. */
    private static final String ROWS = """
        addTwo 0 5 0 1 9; addTwo 0 1 0 5 0; add 0 99 9; add 1 5 0; addCopies 2 31 5 5; set 2 30 0 0;
        walk 0; step 0; step 0; walk 1; step 1; walk 3; knock""";
    private static final String[] BEGINNINGS = {
        "",
        "%s; sort 0 0; sort 1 1; sort 3 1; walk 0; step 0; part 0 0 0 5; inner 1 0 1 3; inner 2 1 0 1",
        "%s; sort 2 1; walk 2; part 0 2 0 31; inner 1 0 5 5; part 2 3 0 0",
        "%s; part 1 0 0 2; inner 2 1 2 2"};

    private static int calls = 0;

    public static void main(String[] args) throws ReflectiveOperationException {
        for (String beginning : BEGINNINGS) {
            String story = beginning.formatted(ROWS);
            for (Method method : Rowtricks.class.getDeclaredMethods()) {
                if (Modifier.isPublic(method.getModifiers())) {
                    spread(story, method, new Object[method.getParameterCount()], 0);
                }
            }
        }
        System.out.println(calls + " calls");
        Check.end();
    }

    /** Goes through all that the arguments from this one on can be. */
    private static void spread(String story, Method method, Object[] given, int at)
            throws ReflectiveOperationException {
        if (at == given.length) {
            isAlike(story, method, given);
            return;
        }
        if (method.getParameterTypes()[at] == boolean.class) {
            for (boolean flag : new boolean[] {false, true}) {
                given[at] = flag;
                spread(story, method, given, at + 1);
            }
            return;
        }
        for (int number : EDGES.get(method.getParameters()[at].getName())) {
            given[at] = number;
            spread(story, method, given, at + 1);
        }
    }

    private static void isAlike(String story, Method method, Object[] given) throws ReflectiveOperationException {
        calls++;
        Object x = begun(new Rowtricks(), story);
        Object model = begun(new Model(), story);
        String due = told(model, method, given);
        String got = told(x, method, given);
        Check.compare(due, got);
        if (!due.equals(got)) {
            System.out.println(story + "; " + method.getName() + Arrays.toString(given));
        }
    }

    private static Object begun(Object x, String story) throws ReflectiveOperationException {
        for (String line : story.split(";")) {
            String[] words = line.strip().split(" ");
            if (!words[0].isEmpty()) {
                call(x, words);
            }
        }
        return x;
    }

    private static void call(Object x, String[] words) throws ReflectiveOperationException {
        for (Method method : x.getClass().getDeclaredMethods()) {
            if (method.getName().equals(words[0]) && method.getParameterCount() == words.length - 1) {
                Object[] given = new Object[words.length - 1];
                for (int i = 0; i < given.length; i++) {
                    boolean isFlag = method.getParameterTypes()[i] == boolean.class;
                    given[i] = isFlag ? (Object) words[i + 1].equals("1") : (Object) Integer.valueOf(words[i + 1]);
                }
                method.invoke(x, given);
                return;
            }
        }
        throw new IllegalStateException("no call " + words[0]);
    }

    /** What the call tells, what the object is behind it, and how far its walks are. */
    private static String told(Object x, Method method, Object[] given) throws ReflectiveOperationException {
        StringBuilder ink = new StringBuilder();
        ink.append(answer(x, method.getName(), method.getParameterTypes(), given)).append(' ');
        ink.append(answer(x, "digest", new Class<?>[0]));
        for (int row = 0; row < 4; row++) {
            ink.append(' ').append(answer(x, "step", new Class<?>[] {int.class}, row));
        }
        for (int part = 0; part < 3; part++) {
            ink.append(' ').append(answer(x, "drop", new Class<?>[] {int.class}, part));
        }
        return ink.toString();
    }

    private static String answer(Object x, String name, Class<?>[] types, Object... given)
            throws ReflectiveOperationException {
        try {
            return String.valueOf(x.getClass().getDeclaredMethod(name, types).invoke(x, given));
        } catch (InvocationTargetException e) {
            return "throws " + e.getCause().getClass().getSimpleName();
        }
    }
}
