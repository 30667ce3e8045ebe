import java.nio.charset.StandardCharsets;
import java.nio.file.Files;
import java.nio.file.Path;
import java.util.List;
import java.util.regex.Matcher;
import java.util.regex.Pattern;

/** The source keeps to what LANGUAGE.md says of its words, and looks at an index before it uses it. */
public final class LanguageTest {
    private static final Path SOURCE = Path.of("src", "main", "java", "ArrowTables.java");
    private static final String[] WORDS = {"throw", "throws", "try", "catch", "finally", "synchronized", "assert",
        "volatile", "transient", "native", "package", "protected", "Object", "Exception", "Random", "System", "Thread",
        "Integer.valueOf", "double", "float"};
    private static final String[] SIGNS = {"->", "::", "...", "\"", "%"};

    public static void main(String[] args) throws Exception {
        String text = Files.readString(SOURCE, StandardCharsets.UTF_8);
        for (int i = 0; i < text.length(); i++) {
            char c = text.charAt(i);
            if (c > 126 || c < 32 && c != '\n') {
                Due.holds("sign " + (int) c + " at " + i, false);
            }
        }
        String code = text.replaceAll("(?s)/\\*.*?\\*/", "").replaceAll("//[^\n]*", "");
        for (String word : WORDS) {
            Due.holds("no " + word, !Pattern.compile("\\b" + word + "\\b").matcher(code).find());
        }
        for (String sign : SIGNS) {
            Due.holds("no " + sign, !code.contains(sign));
        }
        Matcher imports = Pattern.compile("import ([^;]*);").matcher(code);
        while (imports.find()) {
            Due.holds("import " + imports.group(1), imports.group(1).equals("java.util.Arrays"));
        }
        indexes(code);
        lengths(code);
        Due.end();
    }

    /** An index is used only in lines that look at it, or behind one that does. */
    private static void indexes(String code) {
        String[] lines = code.split("\n");
        for (int i = 1; i < lines.length; i++) {
            boolean used = Pattern.compile("\\w\\[[^\\]]").matcher(lines[i].replaceAll("new \\w+\\[", "new ")).find();
            if (used) {
                boolean looked = (lines[i] + lines[i - 1]).contains(".length") || lines[i - 3].contains(".length");
                Due.holds("looked at: " + lines[i].trim(), looked);
            }
        }
        Due.holds("nothing is divided", !Pattern.compile("[^/*]/[^/*]").matcher(code).find());
        Matcher made = Pattern.compile("new \\w+\\[([^\\]]*)\\]").matcher(code);
        while (made.find()) {
            Due.holds("a fixed length: " + made.group(), made.group(1).matches("[A-Z_ *+0-9]+"));
        }
    }

    private static void lengths(String code) {
        List<String> lines = List.of(code.split("\n"));
        int begun = -1;
        String indent = "";
        for (int i = 0; i < lines.size(); i++) {
            Matcher head = Pattern.compile("^( {4}| {8})[\\w\\[\\] ]*\\w\\([^;]*\\{$").matcher(lines.get(i));
            if (head.find()) {
                begun = i;
                indent = head.group(1);
                String inside = lines.get(i).substring(lines.get(i).indexOf('('));
                Due.holds("seven parameters at most: " + lines.get(i).trim(), inside.split(",").length <= 7);
            }
            if (begun >= 0 && lines.get(i).equals(indent + "}")) {
                Due.holds("sixty lines at most: " + lines.get(begun).trim(), i - begun < 60);
                begun = -1;
            }
        }
    }
}
