import java.lang.reflect.Method;
import java.lang.reflect.Modifier;
import java.nio.charset.StandardCharsets;
import java.nio.file.DirectoryStream;
import java.nio.file.Files;
import java.nio.file.Path;
import java.util.HashMap;
import java.util.HashSet;
import java.util.Map;
import java.util.Set;
import java.util.regex.Matcher;
import java.util.regex.Pattern;

/** What README.md says: each answer of its example, and that it names each call, each number and each test. */
public final class ReadmeTest {
    private static final Path PAGE = Path.of("README.md");
    private static final Path TESTS = Path.of("src", "test", "java");
    private static final Pattern SHOWN = Pattern.compile("(?m)^int (\\w+) = (x\\.[^;]*;) +// (-?\\d+)\\b");

    public static void main(String[] args) throws Exception {
        String page = Files.readString(PAGE, StandardCharsets.UTF_8);
        answers(page, Files.readString(TESTS.resolve("ReadmeTest.java"), StandardCharsets.UTF_8));
        calls(page);
        numbers(page);
        tests(page);
        Due.end();
    }

    /** Each line of the example stands here, too, and answers what the page says. */
    private static void answers(String page, String here) {
        Map<String, Integer> made = example();
        Set<String> shown = new HashSet<>();
        Matcher lines = SHOWN.matcher(page);
        while (lines.find()) {
            String name = lines.group(1);
            shown.add(name);
            Due.holds(name + " is made as the page says", here.contains("int " + name + " = " + lines.group(2)));
            Due.holds(name + " is looked at", made.containsKey(name));
            Due.is(name, made.getOrDefault(name, Integer.MIN_VALUE), Integer.parseInt(lines.group(3)));
        }
        Due.holds("the page shows each answer that is made here", shown.equals(made.keySet()));
        int code = page.indexOf("```java");
        String block = page.substring(code, page.indexOf("```\n", code + 7));
        Due.is("lines of the example that make something", block.split("\nint ").length - 1, shown.size());
    }

    private static Map<String, Integer> example() {
        Map<String, Integer> made = new HashMap<>();
        ArrowTables x = new ArrowTables();

        int pair = x.table(2);
        int there = x.arrow(pair, 0, 1);
        int back = x.arrow(pair, 1, 0);
        int early = x.close(pair);
        int kind = x.fault(pair, 0);
        int ahead = x.fault(pair, 1);
        int behind = x.fault(pair, 2);
        int trip = x.way(pair, there, back, 0);
        int tripBack = x.way(pair, back, there, 1);
        int closed = x.close(pair);
        put(made, "pair there back early kind ahead behind trip tripBack closed",
            pair, there, back, early, kind, ahead, behind, trip, tripBack, closed);

        int chain = x.order(3, 7 | 6 << 6 | 4 << 12);
        int arrows = x.about(chain, 1);
        int point = x.order(1, 1);
        int alike = x.same(pair, point);
        put(made, "chain arrows point alike", chain, arrows, point, alike);

        int many = x.carriers(chain, chain);
        int tries = x.count(2);
        int lowest = x.carrier(chain, chain, 0);
        int itself = x.carrier(chain, chain, 4);
        int given = x.gives(lowest, 5);
        int bridges = x.bridges(lowest, itself);
        int at = x.bridge(lowest, itself, 0, 2);
        put(made, "many tries lowest itself given bridges at", many, tries, lowest, itself, given, bridges, at);

        int limit = x.limit(itself);
        int leg = x.leg(2);
        int upper = x.answers(itself);
        int sieves = x.sieves(chain, 2);
        int sieve = x.sieve(chain, 2, 2);
        int pulled = x.pull(chain, 2, sieve, 4);
        int follows = x.follows(chain, 2, sieve, 16);
        put(made, "limit leg upper sieves sieve pulled follows", limit, leg, upper, sieves, sieve, pulled, follows);
        return made;
    }

    private static void put(Map<String, Integer> made, String names, int... answers) {
        String[] each = names.split(" ");
        Due.is("answers of " + names, answers.length, each.length);
        for (int i = 0; i < Math.min(each.length, answers.length); i++) {
            made.put(each[i], answers[i]);
        }
    }

    private static void calls(String page) {
        String table = page.substring(page.indexOf("### The calls"), page.indexOf("### What a number below 0 says"));
        for (Method call : ArrowTables.class.getDeclaredMethods()) {
            if (Modifier.isPublic(call.getModifiers())) {
                Due.holds("the page names " + call.getName(), table.contains("`" + call.getName() + "`"));
            }
        }
    }

    private static void numbers(String page) {
        Due.holds("NONE is told", page.contains("`NONE` " + ArrowTables.NONE + " "));
        Due.holds("BAD is told", page.contains("`BAD` " + ArrowTables.BAD + " "));
        Due.holds("NO is told", page.contains("`NO` " + ArrowTables.NO + " "));
        Due.holds("FULL is told", page.contains("`FULL` " + ArrowTables.FULL + " "));
        Due.holds("SPENT is told", page.contains("`SPENT` " + ArrowTables.SPENT + " "));
        for (int most : new int[] {8, 6, 24, 60000, 5000, 64, 12}) {
            Due.holds("the page says at most " + most, page.contains(" | " + most + " |\n"));
        }
        Due.holds("the page says at most 512 calls", page.contains("at most 512 "));
    }

    private static void tests(String page) throws Exception {
        Due.holds("the page says how to run the tests", page.contains("bash .ci/run\n"));
        try (DirectoryStream<Path> files = Files.newDirectoryStream(TESTS, "*.java")) {
            for (Path file : files) {
                String name = file.getFileName().toString().replace(".java", "");
                boolean ofPromise = name.matches("Promise\\d\\d\\w+Test");
                Due.holds("the page names " + name, ofPromise || page.contains("`" + name + "`"));
            }
        }
    }
}
