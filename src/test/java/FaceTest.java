import java.io.IOException;
import java.lang.reflect.Constructor;
import java.lang.reflect.Executable;
import java.lang.reflect.Field;
import java.lang.reflect.Method;
import java.lang.reflect.Modifier;
import java.nio.file.Files;
import java.nio.file.Path;
import java.util.ArrayList;
import java.util.HashSet;
import java.util.List;
import java.util.Set;
import java.util.TreeSet;

/** That the class shows the document's face (the first argument is the document) and no more. */
public final class FaceTest {
    public static void main(String[] args) throws IOException {
        Set<String> promised = promised(Path.of(args[0]));
        Set<String> shown = shown();
        Check.compare("[]", without(promised, shown).toString());
        Check.compare("[]", without(shown, promised).toString());
        Check.compare("52", String.valueOf(promised.size()));
        Check.compare("true", String.valueOf(Modifier.isPublic(Rowtricks.class.getModifiers())));
        Check.compare("true", String.valueOf(Modifier.isFinal(Rowtricks.class.getModifiers())));
        for (Field field : Rowtricks.class.getDeclaredFields()) {
            Check.compare("true " + field.getName(), Modifier.isPrivate(field.getModifiers()) + " " + field.getName());
        }
        for (Class<?> inside : Rowtricks.class.getDeclaredClasses()) {
            Check.compare("true", String.valueOf(Modifier.isStatic(inside.getModifiers())));
            Check.compare("false", String.valueOf(Modifier.isPublic(inside.getModifiers())));
        }
        noPrivateMethodBearsAPublicName();
        Check.end();
    }

    private static Set<String> promised(Path document) throws IOException {
        Set<String> face = new TreeSet<>();
        for (String line : Files.readAllLines(document)) {
            if (line.startsWith("    public ") && line.endsWith(";")) {
                face.add(line.strip().replaceAll("(int|long|boolean|String) \\w+(?=[,)])", "$1"));
            }
        }
        return face;
    }

    private static Set<String> without(Set<String> all, Set<String> some) {
        Set<String> rest = new TreeSet<>(all);
        rest.removeAll(some);
        return rest;
    }

    private static Set<String> shown() {
        Set<String> face = new TreeSet<>();
        for (Constructor<?> made : Rowtricks.class.getDeclaredConstructors()) {
            face.add(line(made, "Rowtricks"));
        }
        for (Method method : Rowtricks.class.getDeclaredMethods()) {
            if (!Modifier.isPrivate(method.getModifiers())) {
                face.add(line(method, method.getReturnType().getSimpleName() + " " + method.getName()));
            }
        }
        return face;
    }

    private static String line(Executable made, String name) {
        String modifiers = Modifier.toString(made.getModifiers());
        String thrown = names(made.getExceptionTypes());
        return modifiers + " " + name + "(" + names(made.getParameterTypes()) + ")"
            + (thrown.isEmpty() ? "" : " throws " + thrown) + ";";
    }

    private static String names(Class<?>[] types) {
        List<String> names = new ArrayList<>();
        for (Class<?> type : types) {
            names.add(type.getSimpleName());
        }
        return String.join(", ", names);
    }

    private static void noPrivateMethodBearsAPublicName() {
        Set<String> names = new HashSet<>();
        for (Method method : Rowtricks.class.getDeclaredMethods()) {
            if (Modifier.isPublic(method.getModifiers())) {
                names.add(method.getName());
            }
        }
        List<Class<?>> all = new ArrayList<>(List.of(Rowtricks.class.getDeclaredClasses()));
        all.add(Rowtricks.class);
        for (Class<?> one : all) {
            for (Method method : one.getDeclaredMethods()) {
                if (Modifier.isPrivate(method.getModifiers()) && names.contains(method.getName())) {
                    Check.compare("no private " + method.getName(), "one");
                }
            }
        }
    }
}
