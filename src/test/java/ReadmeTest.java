import java.io.IOException;
import java.lang.reflect.InvocationTargetException;
import java.lang.reflect.Method;
import java.nio.charset.StandardCharsets;
import java.nio.file.Files;
import java.nio.file.Path;
import java.util.ArrayList;
import java.util.Arrays;
import java.util.Comparator;
import java.util.List;
import java.util.regex.Matcher;
import java.util.regex.Pattern;
import java.util.stream.Stream;

/** That README.md (the third argument; the first one is the document) tells what is so, as it is tried. */
public final class ReadmeTest {
    private static final Pattern CALL = Pattern.compile("x\\.(\\w+)\\((.*)\\); +// (.+)");
    private static final Pattern STANDS = Pattern.compile("(row|part) (\\d) is (.+)");
    private static final String MADE = "Rowtricks x = new Rowtricks();";

    public static void main(String[] args) throws IOException, InterruptedException {
        Path readme = Path.of(args[2]).toAbsolutePath();
        List<String> page = Files.readAllLines(readme);
        callsAreAsTold(page);
        commandsDoAsTold(page, readme.getParent(), Path.of(args[0]));
        testsAreAllNamed(page, readme.resolveSibling("src/test/java"));
        Check.end();
    }

    /** The fenced blocks of one kind, each with its lines. */
    private static List<List<String>> blocks(List<String> page, String kind) {
        List<List<String>> blocks = new ArrayList<>();
        List<String> block = null;
        for (String line : page) {
            if (block == null && line.startsWith("```")) {
                block = new ArrayList<>();
                if (line.equals("```" + kind)) {
                    blocks.add(block);
                }
            } else if (line.equals("```")) {
                block = null;
            } else if (block != null) {
                block.add(line);
            }
        }
        Check.compare("every block has an end", block == null ? "every block has an end" : "one has none");
        return blocks;
    }

    /** The first block of Java is a whole file; all others are lines of calls of one object. */
    private static void callsAreAsTold(List<String> page) {
        List<List<String>> blocks = blocks(page, "java");
        Rowtricks x = null;
        int calls = 0;
        for (List<String> block : blocks.subList(1, blocks.size())) {
            for (String line : block) {
                Matcher call = CALL.matcher(line);
                if (line.equals(MADE)) {
                    x = new Rowtricks();
                } else if (x != null && call.matches()) {
                    calls++;
                    isAsTold(x, line, call);
                } else {
                    Check.compare("a line that can be tried", line);
                }
            }
        }
        Check.compare("true", String.valueOf(calls > 30));
    }

    private static void isAsTold(Rowtricks x, String line, Matcher call) {
        String[] told = call.group(3).split("; ");
        Check.compare(line + " " + told[0], line + " " + answer(x, call.group(1), call.group(2)));
        for (String what : Arrays.asList(told).subList(1, told.length)) {
            Matcher stands = STANDS.matcher(what);
            if (stands.matches()) {
                int number = Integer.parseInt(stands.group(2));
                String text = stands.group(1).equals("row") ? x.text(number) : x.textIn(number);
                Check.compare(line + " " + stands.group(3), line + " " + text);
            } else {
                Check.compare("something that can be tried", what);
            }
        }
    }

    private static String answer(Rowtricks x, String name, String given) {
        String[] words = given.isEmpty() ? new String[0] : given.split(", ");
        for (Method method : Rowtricks.class.getMethods()) {
            if (method.getName().equals(name) && method.getParameterCount() == words.length) {
                return answer(x, method, words);
            }
        }
        return "no such method";
    }

    private static String answer(Rowtricks x, Method method, String[] words) {
        Object[] given = new Object[words.length];
        for (int i = 0; i < words.length; i++) {
            boolean isWord = words[i].equals("true") || words[i].equals("false");
            given[i] = isWord ? (Object) Boolean.valueOf(words[i]) : (Object) Integer.valueOf(words[i]);
        }
        try {
            Object answer = method.invoke(x, given);
            return answer instanceof String ? "\"" + answer + "\"" : String.valueOf(answer);
        } catch (InvocationTargetException e) {
            return "throws " + e.getCause().getClass().getSimpleName();
        } catch (ReflectiveOperationException | IllegalArgumentException e) {
            return "no such call";
        }
    }

    /** In a copy of the project, so that nothing is left behind; .ci/run is tried by being what runs this. */
    private static void commandsDoAsTold(List<String> page, Path project, Path document)
            throws IOException, InterruptedException {
        Path room = Files.createTempDirectory("readme");
        try {
            Path copy = Files.createDirectories(room.resolve("main"));
            copyAll(project.resolve("src"), copy.resolve("src"));
            Files.copy(project.resolve("README.md"), copy.resolve("README.md"));
            Files.copy(document, Files.createDirectories(room.resolve("shared")).resolve("DOC.md"));
            Files.write(copy.resolve("Try.java"), blocks(page, "java").get(0));
            List<List<String>> commands = blocks(page, "sh");
            Check.compare("3", String.valueOf(commands.size()));
            Check.compare(String.join("\n", blocks(page, "text").get(0)), shown(copy, commands.get(0)));
            Check.compare("[.ci/run]", commands.get(1).toString());
            String oneTest = shown(copy, commands.get(2));
            Check.compare("a test that passes", oneTest.endsWith(" answers, 0 wrong") ? "a test that passes" : oneTest);
        } finally {
            removeAll(room);
        }
    }

    private static String shown(Path folder, List<String> commands) throws IOException, InterruptedException {
        Process run = new ProcessBuilder("sh", "-e", "-c", String.join("\n", commands))
            .directory(folder.toFile()).redirectErrorStream(true).start();
        run.getOutputStream().close();
        String shown = new String(run.getInputStream().readAllBytes(), StandardCharsets.UTF_8).strip();
        int code = run.waitFor();
        return code == 0 ? shown : shown + "\nended with " + code;
    }

    private static void copyAll(Path from, Path to) throws IOException {
        try (Stream<Path> found = Files.walk(from)) {
            for (Path one : found.toList()) {
                Files.copy(one, to.resolve(from.relativize(one).toString()));
            }
        }
    }

    private static void removeAll(Path room) throws IOException {
        try (Stream<Path> found = Files.walk(room)) {
            for (Path one : found.sorted(Comparator.reverseOrder()).toList()) {
                Files.delete(one);
            }
        }
    }

    private static void testsAreAllNamed(List<String> page, Path folder) throws IOException {
        String text = String.join("\n", page);
        try (Stream<Path> found = Files.list(folder)) {
            for (Path file : found.toList()) {
                String name = file.getFileName().toString().replace(".java", "");
                Check.compare("names " + name, text.contains("`" + name + "`") ? "names " + name : "does not");
            }
        }
        Matcher named = Pattern.compile("`(\\w+Test)`").matcher(text);
        while (named.find()) {
            boolean isThere = Files.exists(folder.resolve(named.group(1) + ".java"));
            Check.compare("true " + named.group(1), isThere + " " + named.group(1));
        }
    }
}
