import java.io.IOException;
import java.nio.file.Files;
import java.nio.file.Path;
import java.util.LinkedHashMap;
import java.util.Map;

/** The document's text, by the parts that a test can name: "Terms 1" to "Terms 5", "Answers", "Promise 1" to "Promise 46". */
final class Doc {
    private final Map<String, String> parts = new LinkedHashMap<>();

    Doc(Path file) throws IOException {
        String name = null;
        for (String line : Files.readAllLines(file)) {
            String begins = nameOf(line);
            name = begins == null ? name : begins;
            if (name != null) {
                parts.merge(name, line + "\n", String::concat);
            }
        }
        parts.remove("");
    }

    /** The name of the part that begins with this line; empty: one that no test names; null: the part goes on. */
    private static String nameOf(String line) {
        if (line.startsWith("======== ")) {
            return "Terms " + line.charAt(9);
        }
        if (line.startsWith("## Promise ")) {
            return line.substring(3, line.indexOf(':'));
        }
        return line.startsWith("Answers, ") ? "Answers" : line.startsWith("## ") || line.startsWith("Ahead of ") ? "" : null;
    }

    Iterable<String> names() {
        return parts.keySet();
    }

    String part(String name) {
        String part = parts.getOrDefault(name, "");
        // a promise's heading and the line of its method are no sentences
        return part.startsWith("## ") ? part.substring(part.indexOf("`: ") + 3) : part;
    }
}
