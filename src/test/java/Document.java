import java.io.IOException;
import java.nio.file.Files;
import java.nio.file.Path;
import java.util.ArrayList;
import java.util.List;

/** The document's sentences, so that a test can name the one that it is for. */
final class Document {
    private final List<String> lines = new ArrayList<>();

    Document(String file) throws IOException {
        for (String line : Files.readAllLines(Path.of(file))) {
            lines.add(line.replace("`", "").strip());
        }
    }

    /** All lines of one promise. */
    List<String> promise(int number) {
        return from("## Promise " + number + ":");
    }

    /** All lines of the description. */
    List<String> description() {
        return from("## Description");
    }

    /** The lines of a promise that need a test: what it tells, what it throws, and the notes on its numbers. */
    List<String> due(int number) {
        List<String> due = new ArrayList<>();
        for (String line : promise(number)) {
            boolean isNote = line.startsWith("- ") && line.matches(".*[(0-9].*") && !line.matches("- \\w+2: [^(0-9]*");
            if (isNote || line.startsWith("Returns ") || line.startsWith("Throws ")) {
                due.add(line);
            }
        }
        return due;
    }

    private List<String> from(String heading) {
        List<String> found = new ArrayList<>();
        boolean isIn = false;
        for (String line : lines) {
            if (line.startsWith("## ")) {
                isIn = line.startsWith(heading);
            } else if (isIn && !line.isEmpty()) {
                found.add(line);
            }
        }
        return found;
    }
}
