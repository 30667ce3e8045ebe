import java.nio.charset.StandardCharsets;
import java.nio.file.DirectoryStream;
import java.nio.file.Files;
import java.nio.file.Path;
import java.util.LinkedHashMap;
import java.util.Map;
import java.util.regex.Matcher;
import java.util.regex.Pattern;

/**
 * Prints what of the document no edge test names with Due.says, and what the tests name that the document does not say.
 * It is no test: what is left over is for somebody to read, as not each sentence names an edge.
 */
public final class Sentences {
    private static final Path DOCUMENT = Path.of("..", "shared", "DOC.md");
    private static final Path TESTS = Path.of("src", "test", "java");
    private static final Pattern SAYS = Pattern.compile("Due\\.says\\(\"([^\"]*)\",\\s*\"([^\"]*)\"\\)");

    public static void main(String[] args) throws Exception {
        Map<String, String> parts = parts(Files.readString(DOCUMENT, StandardCharsets.UTF_8));
        Map<String, boolean[]> named = new LinkedHashMap<>();
        parts.forEach((where, text) -> named.put(where, new boolean[text.length()]));
        try (DirectoryStream<Path> files = Files.newDirectoryStream(TESTS, "Edges*.java")) {
            for (Path file : files) {
                Matcher says = SAYS.matcher(Files.readString(file, StandardCharsets.UTF_8));
                while (says.find()) {
                    mark(parts, named, says.group(1), says.group(2));
                }
            }
        }
        parts.forEach((where, text) -> left(where, text, named.get(where)));
    }

    /** The text of each part, with one blank between words. */
    private static Map<String, String> parts(String document) {
        Map<String, String> parts = new LinkedHashMap<>();
        for (String part : document.split("(?m)^## ")) {
            int end = part.indexOf('\n');
            if (end > 0 && !part.startsWith("# ")) {
                String head = part.substring(0, end).replaceAll(":.*", "").trim();
                parts.put(head, part.substring(end).replaceAll("\\s+", " ").trim());
            }
        }
        return parts;
    }

    private static void mark(Map<String, String> parts, Map<String, boolean[]> named, String where, String words) {
        int at = parts.containsKey(where) ? parts.get(where).indexOf(words) : -1;
        if (at < 0) {
            System.out.println(where + " does not say: " + words);
            return;
        }
        for (; at >= 0; at = parts.get(where).indexOf(words, at + 1)) {
            for (int i = at; i < at + words.length(); i++) {
                named.get(where)[i] = true;
            }
        }
    }

    private static void left(String where, String text, boolean[] named) {
        StringBuilder rest = new StringBuilder();
        for (int i = 0; i < text.length(); i++) {
            rest.append(named[i] ? '\n' : text.charAt(i));
        }
        for (String piece : rest.toString().split("\n+")) {
            if (piece.matches("(?s).*\\w.*")) {
                System.out.println(where + ": " + piece.trim());
            }
        }
    }
}
