import java.io.IOException;
import java.io.InputStream;
import java.lang.reflect.Executable;
import java.lang.reflect.Field;
import java.lang.reflect.Modifier;
import java.nio.charset.StandardCharsets;
import java.nio.file.Files;
import java.nio.file.Path;
import java.util.ArrayList;
import java.util.List;
import java.util.Set;
import java.util.regex.Matcher;
import java.util.regex.Pattern;

/** The form of the class (the second argument is its file), where a program can see it; the numbers are rules. */
public final class LanguageTest {
    private static final Set<String> LIBRARY = Set.of(
        "java/lang/Object", "java/lang/String", "java/lang/StringBuilder", "java/lang/Math",
        "java/lang/IndexOutOfBoundsException", "java/lang/IllegalArgumentException", "java/lang/IllegalStateException");
    private static final Set<String> OF_CONSTANTS = Set.of("int", "long", "boolean", "char", "String");
    private static final List<String> NOT_THERE = List.of(
        "package", "import", "try", "catch", "finally", "synchronized", "assert", "double", "float", "->", "::");
    private static final Pattern COMMENT_OR_TEXT =
        Pattern.compile("/\\*.*?\\*/|//[^\n]*|\"([^\"\\\\]|\\\\.)*\"|'([^'\\\\]|\\\\.)*'", Pattern.DOTALL);
    private static final Pattern OUTSIDE = Pattern.compile("^(\\w+ )*(class|interface|enum|record) ", Pattern.MULTILINE);
    private static final int MOST_PARAMETERS = 7;
    private static final int MOST_LINES = 60;
    private static final int MOST_CLASSES = 12;
    private static final int MOST_FIELDS = 20;

    public static void main(String[] args) throws IOException {
        String file = Files.readString(Path.of(args[1]));
        signsAreFewEnough(file);
        String code = COMMENT_OR_TEXT.matcher(file).replaceAll(found -> found.group().replaceAll("[^\n]", " "));
        hasNot(code);
        throwsWrittenTextsAlone(file);
        methodsAreShort(code);
        Check.compare("1: classes outside 1", "1: classes outside " + OUTSIDE.matcher(code).results().count());
        List<Class<?>> all = new ArrayList<>(List.of(Rowtricks.class.getDeclaredClasses()));
        all.add(Rowtricks.class);
        Check.compare("11: true", "11: " + (all.size() <= MOST_CLASSES));
        for (Class<?> one : all) {
            fields(one);
            parameters(one);
            library(one);
        }
        Check.end();
    }

    private static void signsAreFewEnough(String file) {
        for (char sign : file.toCharArray()) {
            if (sign < 1 || sign > 127) {
                Check.compare("4: signs 1 to 127", "4: the sign " + (int) sign);
            }
        }
    }

    /** None of these is against a rule everywhere, but the class needs none of them. */
    private static void hasNot(String code) {
        for (String word : NOT_THERE) {
            String sought = Character.isLetter(word.charAt(0)) ? "\\b" + word + "\\b" : Pattern.quote(word);
            boolean isThere = Pattern.compile(sought).matcher(code).find();
            Check.compare("1, 3, 6: false " + word, "1, 3, 6: " + isThere + " " + word);
        }
    }

    private static void throwsWrittenTextsAlone(String file) {
        Matcher thrown = Pattern.compile("throw ([^;]*);").matcher(file);
        int many = 0;
        while (thrown.find()) {
            many++;
            boolean isPlain = thrown.group(1).matches(
                "new (IndexOutOfBounds|IllegalArgument|IllegalState)Exception\\(\"[^\"]*\"\\)");
            Check.compare("6: true " + thrown.group(1), "6: " + isPlain + " " + thrown.group(1));
        }
        Check.compare("6: true", "6: " + (many > 0));
    }

    /** A method's lines go from its name, at the depth of its class, to the brace that ends it. */
    private static void methodsAreShort(String code) {
        Pattern head = Pattern.compile("( {4}| {8})(public|private|static)\\b[^;=]*\\(.*");
        String[] lines = code.split("\n");
        int many = 0;
        for (int first = 0; first < lines.length; first++) {
            Matcher begun = head.matcher(lines[first]);
            if (begun.matches()) {
                many++;
                int last = first;
                while (!lines[last].equals(begun.group(1) + "}")) {
                    last++;
                }
                Check.compare("11: true " + lines[first], "11: " + (last - first < MOST_LINES) + " " + lines[first]);
            }
        }
        Check.compare("11: true", "11: " + (many > 52));
    }

    private static void fields(Class<?> one) {
        int many = 0;
        for (Field field : one.getDeclaredFields()) {
            if (Modifier.isStatic(field.getModifiers())) {
                boolean isConstant = Modifier.isFinal(field.getModifiers())
                    && OF_CONSTANTS.contains(field.getType().getSimpleName());
                Check.compare("5: true " + field.getName(), "5: " + isConstant + " " + field.getName());
            } else {
                many++;
            }
        }
        Check.compare("11: true", "11: " + (many <= MOST_FIELDS));
    }

    private static void parameters(Class<?> one) {
        List<Executable> all = new ArrayList<>(List.of(one.getDeclaredMethods()));
        all.addAll(List.of(one.getDeclaredConstructors()));
        for (Executable made : all) {
            boolean areFew = made.getParameterCount() <= MOST_PARAMETERS;
            Check.compare("11: true " + made.getName(), "11: " + areFew + " " + made.getName());
        }
    }

    /** The names that the compiled class bears; one that joins texts by + or holds a lambda bears java/lang/invoke. */
    private static void library(Class<?> one) throws IOException {
        try (InputStream stream = one.getResourceAsStream(one.getName() + ".class")) {
            String bytes = new String(stream.readAllBytes(), StandardCharsets.ISO_8859_1);
            Matcher named = Pattern.compile("javax?/[\\w/$]+|\\w+Exact\\b").matcher(bytes);
            while (named.find()) {
                Check.compare("4: true " + named.group(), "4: " + LIBRARY.contains(named.group()) + " " + named.group());
            }
        }
    }
}
