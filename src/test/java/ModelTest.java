import java.lang.reflect.InvocationTargetException;
import java.lang.reflect.Method;
import java.lang.reflect.Modifier;
import java.lang.reflect.Parameter;
import java.util.ArrayList;
import java.util.Comparator;
import java.util.List;
import java.util.Set;

/**
 * Long runs of calls, drawn by a fixed rule, to the class and to the model alike: each answer and, after
 * each call, the digest must be alike. So a call that throws is seen to change nothing, too.
 */
public final class ModelTest {
    private static final int RUNS = 1500;
    /** Of the 512 calls of an object each second one is a digest(). */
    private static final int CALLS = 255;
    private static final int PHASE = 24;
    private static final int[] EDGES =
        {Integer.MIN_VALUE, -1000, -2, -1, 3, 4, 10, 31, 32, 100, 101, Integer.MAX_VALUE};
    private static final Set<String> RESHAPING = Set.of(
        "add", "insert", "remove", "clear", "addTwo", "addCopies", "append", "copy", "sort", "cut");
    private static final Set<String> EMPTYING = Set.of("clear", "copy", "cut", "fill");

    private static long drawn;
    private static int top;

    public static void main(String[] args) throws ReflectiveOperationException {
        List<Method> methods = new ArrayList<>();
        for (Method method : Rowtricks.class.getDeclaredMethods()) {
            if (Modifier.isPublic(method.getModifiers())) {
                methods.add(method);
            }
        }
        methods.sort(Comparator.comparing(Method::getName));
        for (int run = 0; run < RUNS; run++) {
            drawn = run;
            // a run keeps to few VALUES, or else no two cards would ever be the SAME
            top = run % 3 == 0 ? 2 : run % 3 == 1 ? 9 : 99;
            if (!isAlike(run, methods)) {
                break;
            }
        }
        Check.end();
    }

    private static boolean isAlike(int run, List<Method> methods) throws ReflectiveOperationException {
        Rowtricks x = new Rowtricks();
        Model model = new Model();
        StringBuilder story = new StringBuilder();
        for (int call = 0; call < CALLS; call++) {
            Method method = methods.get(draw(methods.size()));
            if (isLeftOut(method.getName(), call)) {
                continue;
            }
            Object[] given = arguments(method);
            Method same = Model.class.getDeclaredMethod(method.getName(), method.getParameterTypes());
            String due = answer(same, model, given) + " " + model.digest();
            String got = answer(method, x, given) + " " + x.digest();
            story.append(method.getName()).append(List.of(given)).append(" => ").append(due).append('\n');
            Check.compare(due, got);
            if (!due.equals(got)) {
                System.out.println("run " + run + ":\n" + story);
                return false;
            }
        }
        return true;
    }

    /** Each second phase of a run is calm: or else parts within parts and walks would hardly ever be there. */
    private static boolean isLeftOut(String name, int call) {
        boolean isCalm = call / PHASE % 2 == 1;
        if (isCalm && RESHAPING.contains(name) && draw(16) > 0) {
            return true;
        }
        return EMPTYING.contains(name) && draw(3) > 0;
    }

    private static String answer(Method method, Object of, Object[] given) throws ReflectiveOperationException {
        try {
            return String.valueOf(method.invoke(of, given));
        } catch (InvocationTargetException e) {
            return "throws " + e.getCause().getClass().getSimpleName();
        }
    }

    private static Object[] arguments(Method method) {
        Parameter[] parameters = method.getParameters();
        Object[] given = new Object[parameters.length];
        int from = 0;
        for (int i = 0; i < parameters.length; i++) {
            if (parameters[i].getType() == boolean.class) {
                given[i] = draw(2) == 1;
            } else if (draw(40) == 0) {
                given[i] = EDGES[draw(EDGES.length)];
            } else if (parameters[i].getName().equals("to")) {
                given[i] = from + draw(5);
            } else {
                given[i] = number(parameters[i].getName());
                from = (int) given[i];
            }
        }
        return given;
    }

    /** A number that most often fits the parameter of that name. */
    private static int number(String name) {
        return switch (name) {
            case "part", "whole" -> draw(3);
            case "row", "other" -> draw(16) == 0 ? 2 + draw(2) : draw(2);
            case "value", "value2" -> draw(top + 1);
            case "mark", "mark2" -> draw(3);
            case "place", "a", "b" -> draw(draw(2) == 0 ? 4 : 16);
            case "from" -> draw(4);
            case "many" -> draw(8) == 0 ? draw(33) : draw(5);
            case "by" -> draw(80) - 40;
            case "what" -> draw(7);
            default -> throw new IllegalStateException("no rule for " + name + " (compiled without -parameters?)");
        };
    }

    /** 0 to below - 1, by a fixed rule (so that each run of the test is the same). */
    private static int draw(int below) {
        drawn = drawn * 6364136223846793005L + 1442695040888963407L;
        return (int) ((drawn >>> 33) % below);
    }
}
