import java.nio.charset.StandardCharsets;
import java.nio.file.Files;
import java.nio.file.Path;

/** Ahead of each call the interface says to which of the document's three parts it belongs. */
public final class HeadsTest {
    private static final Path SOURCE = Path.of("src", "main", "java", "ArrowTables.java");
    private static final String[] HEADS = {"tables", "carriers", "sieves"};
    private static final String[][] CALLS = {
        {"table", "arrow", "way", "close", "fault", "order", "turned", "beside", "about", "end", "wayOf"},
        {"carriers", "carrier", "then", "told", "gives", "same", "bridges", "bridge", "limit", "leg", "cones", "answer", "answers"},
        {"sieves", "sieve", "pull", "follows", "count", "digest"}};

    public static void main(String[] args) throws Exception {
        String text = Files.readString(SOURCE, StandardCharsets.UTF_8);
        for (int part = 0; part < HEADS.length; part++) {
            for (String call : CALLS[part]) {
                int at = text.indexOf(" " + call + "(", text.indexOf("public ArrowTables()"));
                int head = text.lastIndexOf("---- ", at);
                Due.holds(call + " is behind a head", at >= 0 && head >= 0);
                Due.holds(call + " is behind ---- " + HEADS[part], head >= 0 && text.startsWith("---- " + HEADS[part] + "\n", head));
            }
        }
        Due.end();
    }
}
