import java.io.IOException;
import java.nio.file.Files;
import java.nio.file.Path;
import java.util.Map;
import java.util.Set;
import java.util.TreeMap;
import java.util.TreeSet;
import java.util.regex.Matcher;
import java.util.regex.Pattern;
import java.util.stream.Stream;

/**
 * What README.md says: its run of calls with their answers, its table of the
 * errors, and the tests that it names. Its path is the last argument; without
 * one it is looked for in the folder that the test is run from.
 */
public final class ReadmeTest {
    private static final Checks C = new Checks("ReadmeTest");
    private static final Pattern TYPED = Pattern.compile("\"([^\"]*)\"\\.toCharArray\\(\\)");
    private static final Pattern CALL = Pattern.compile("x\\.(\\w+\\([-0-9, ]*\\));\\s*// (-?\\d+)\\b.*");
    /** In the loop that types the text, the one call whose answers are not told. */
    private static final String EACH = "x.type(c);";
    private static final Pattern ERROR = Pattern.compile("\\| `(\\w+)` \\| (-\\d+) \\|.*");
    private static final Pattern TEST = Pattern.compile("`(\\w+Test)`");

    /** The calls of the code, one by one, on one new object. */
    private static void runOfCalls(String readme) {
        String code = between(readme, "```java\n", "```");
        Script script = new Script();
        int calls = 0;
        for (String line : code.split("\n")) {
            Matcher typed = TYPED.matcher(line);
            Matcher call = CALL.matcher(line);
            if (typed.find()) {
                script.typed(typed.group(1));
            } else if (call.matches()) {
                calls++;
                C.due("README, " + line, script.run(call.group(1)), Integer.parseInt(call.group(2)));
            } else {
                C.due("README, " + line + ": its answer is told", line.contains("x.") && !line.contains(EACH) ? 0 : 1, 1);
            }
        }
        C.due("README has a run of calls", calls > 0 ? 1 : 0, 1);
    }

    private static void errors(String readme) {
        Map<String, Integer> told = new TreeMap<>();
        for (String line : readme.split("\n")) {
            Matcher error = ERROR.matcher(line);
            if (error.matches()) {
                told.put(error.group(1), Integer.valueOf(error.group(2)));
            }
        }
        Map<String, Integer> due = new TreeMap<>(Map.of("UNKNOWN", SureAnswers.UNKNOWN,
                "BAD_VALUE", SureAnswers.BAD_VALUE, "FULL", SureAnswers.FULL,
                "NOT_POSSIBLE", SureAnswers.NOT_POSSIBLE, "NONE", SureAnswers.NONE));
        C.due("README tells the errors " + told + ", due is " + due, told.equals(due) ? 1 : 0, 1);
        C.due("README, -100 for the empty text", Script.of("").run("addBlock()"), -100);
    }

    private static void tests(String readme, Path folder) throws IOException {
        Set<String> told = new TreeSet<>();
        Matcher test = TEST.matcher(readme);
        while (test.find()) {
            told.add(test.group(1));
        }
        Set<String> due = new TreeSet<>();
        try (Stream<Path> files = Files.list(folder)) {
            files.map(file -> file.getFileName().toString()).filter(name -> name.endsWith("Test.java"))
                    .forEach(name -> due.add(name.substring(0, name.length() - ".java".length())));
        }
        C.due("README names the tests " + told + ", due is " + due, told.equals(due) ? 1 : 0, 1);
    }

    /** What stands between the two; nothing if there is no such place. */
    private static String between(String text, String open, String close) {
        int from = text.indexOf(open);
        int to = from < 0 ? -1 : text.indexOf(close, from + open.length());
        return to < 0 ? "" : text.substring(from + open.length(), to);
    }

    public static void main(String[] args) throws IOException {
        Path path = Path.of(args.length > 0 ? args[args.length - 1] : "README.md").toAbsolutePath();
        String readme = Files.readString(path);
        runOfCalls(readme);
        errors(readme);
        tests(readme, path.resolveSibling("src/test/java"));
        C.end();
    }
}
