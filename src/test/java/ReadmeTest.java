import java.io.IOException;
import java.nio.file.Files;
import java.nio.file.Path;
import java.util.List;
import java.util.Set;
import java.util.TreeSet;
import java.util.regex.Matcher;
import java.util.regex.Pattern;
import java.util.stream.Collectors;
import java.util.stream.Stream;

/** README.md holds of the project as it stands: its example, its tables and its names of tests. */
public final class ReadmeTest {
    private static final Path README = Path.of("README.md");
    private static final Path SOURCE = Path.of("src/main/java/IdleDispatcher.java");
    private static final Path TESTS = Path.of("src/test/java");

    private static final Pattern EXAMPLE = Pattern.compile("x\\.(\\w+)\\(([^)]*)\\);\\s+// (throws )?(\\S+).*");
    private static final Pattern ROW = Pattern.compile("\\| `([^`]+)` \\| ([^|]+) \\|([^|]*)\\|");
    private static final Pattern EXCEPTION = Pattern.compile("`(\\w+Exception)` if ");
    private static final Pattern NAME = Pattern.compile("`(\\w+Test)`");

    private static final Check check = new Check();

    public static void main(String[] args) throws IOException {
        List<String> page = Files.readAllLines(README);
        exampleAnswersAsItSays(page);
        tablesTellTheFace(page);
        testsAreNamed(String.join("\n", page));
        check.end();
    }

    private static void exampleAnswersAsItSays(List<String> page) {
        IdleDispatcher x = new IdleDispatcher();
        int calls = 0;
        for (String line : page) {
            Matcher m = EXAMPLE.matcher(line);
            if (m.matches()) {
                calls++;
                String due = (m.group(3) == null ? "" : "throws.") + m.group(4);
                check.due(line, Check.answer(() -> called(x, m.group(1), m.group(2))), due);
            }
        }
        long written = page.stream().filter(line -> line.startsWith("x.")).count();
        check.due("calls of the example that were read", calls, written);
        check.due("there is an example", calls > 0, true);
    }

    private static Object called(IdleDispatcher x, String name, String arguments) {
        int[] given = {0, 0};
        String[] texts = arguments.isEmpty() ? new String[0] : arguments.split(", ");
        for (int i = 0; i < texts.length; i++) {
            given[i] = Integer.parseInt(texts[i]);
        }
        return Call.on(x, name, given[0], given[1]);
    }

    private static void tablesTellTheFace(List<String> page) throws IOException {
        String source = Files.readString(SOURCE);
        Set<String> told = new TreeSet<>();
        for (String line : page) {
            Matcher m = ROW.matcher(line);
            if (m.matches()) {
                String signature = m.group(1);
                check.due("'" + signature + "' is in the class", source.contains("    public " + signature + " "), true);
                check.due("'" + signature + "' is told once", told.add(described(signature, m.group(3))), true);
            }
        }
        check.due("the tables", told.toString(), Face.ofTheClass().toString());
    }

    /** As Face tells it: without the names of the parameters, with the exceptions behind it. */
    private static String described(String signature, String exceptions) {
        StringBuilder text = new StringBuilder(signature.replaceAll("(int|boolean) \\w+([,)])", "$1$2").replace(", ", ","));
        Matcher e = EXCEPTION.matcher(exceptions);
        while (e.find()) {
            text.append(' ').append(e.group(1));
        }
        return text.toString();
    }

    private static void testsAreNamed(String page) throws IOException {
        Set<String> files;
        try (Stream<Path> found = Files.list(TESTS)) {
            files = found.map(p -> p.getFileName().toString().replace(".java", "")).collect(Collectors.toCollection(TreeSet::new));
        }
        for (String file : files) {
            check.due(file + " is named", page.contains("`" + file + "`"), true);
        }
        Matcher m = NAME.matcher(page);
        while (m.find()) {
            check.due(m.group(1) + " is there", files.contains(m.group(1)), true);
        }
    }
}
