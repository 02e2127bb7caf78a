import java.io.IOException;
import java.nio.file.Files;
import java.nio.file.Path;
import java.util.ArrayList;
import java.util.Arrays;
import java.util.List;
import java.util.Map;
import java.util.Set;
import java.util.TreeMap;
import java.util.TreeSet;
import java.util.regex.Matcher;
import java.util.regex.Pattern;
import java.util.stream.Stream;

/** What README.md says of the class and of its tests; runs in the project's directory. */
public final class ReadmeTest {
    private static final Path TESTS = Path.of("src/test/java");
    private static final Pattern NEW_OBJECT = Pattern.compile("ConeDesk desk = new ConeDesk\\((-?\\d+)\\);.*");
    private static final Pattern EXAMPLE = Pattern.compile("desk\\.(\\w+)\\(([^)]*)\\); +// (throws )?([-\\w]+): .+");
    private static final Pattern FACE = Pattern.compile(" +public (\\w+ \\w+\\([^)]*\\))(?: throws ([^;]+))?;");
    private static final Pattern CALL = Pattern.compile("\\| `(\\w+ \\w+\\([^)]*\\))` \\| [^|]+ \\| ([^|]+) \\|");
    private static final Pattern EXCEPTION = Pattern.compile("`(\\w+Exception)`: \\w");
    private static final Pattern METHODS_OF_TESTS =
            Pattern.compile("((?:`[a-z]\\w*`(?:, )?)+) of ((?:`\\w+Test`(?:, )?)+)");
    private static final Pattern NAME = Pattern.compile("`(\\w+)`");

    private final Checks checks = new Checks();
    private final Map<String, List<String>> face;
    private final List<String> lines;

    private ReadmeTest(Map<String, List<String>> face, List<String> lines) {
        this.face = face;
        this.lines = lines;
    }

    public static void main(String[] args) throws IOException {
        ReadmeTest test = new ReadmeTest(face(), Files.readAllLines(Path.of("README.md")));
        test.exampleAnswersAsItSays();
        test.everyCallIsTold();
        test.everyTestIsNamed();
        test.namedTestsAreThere();
        test.checks.end();
    }

    private void exampleAnswersAsItSays() {
        checks.about("the example in README.md");
        Set<String> called = new TreeSet<>();
        ConeDesk desk = null;
        for (String line : codeLines()) {
            Matcher start = NEW_OBJECT.matcher(line);
            Matcher example = EXAMPLE.matcher(line);
            if (start.matches()) {
                desk = new ConeDesk(Integer.parseInt(start.group(1)));
            } else if (example.matches() && desk != null) {
                called.add(example.group(1));
                String want = example.group(3) == null ? example.group(4) : "throws." + example.group(4);
                checks.due(want, desk, example.group(1), numbers(example.group(2)));
            } else {
                checks.same(line, "no call with its answer", "a call with its answer");
            }
        }
        for (String call : face.keySet()) {
            String name = call.substring(call.indexOf(' ') + 1, call.indexOf('('));
            checks.same(name + " is in the example", called.contains(name), true);
        }
    }

    private List<String> codeLines() {
        int from = lines.indexOf("```java") + 1;
        int to = from + lines.subList(from, lines.size()).indexOf("```");
        return lines.subList(from, to);
    }

    private static int[] numbers(String list) {
        return list.isEmpty() ? new int[0] : Arrays.stream(list.split(", ")).mapToInt(Integer::parseInt).toArray();
    }

    private void everyCallIsTold() {
        checks.about("the calls in README.md, with what they throw");
        Map<String, List<String>> told = new TreeMap<>();
        for (String line : lines) {
            Matcher call = CALL.matcher(line);
            if (call.matches()) {
                List<String> exceptions = all(EXCEPTION, call.group(2));
                told.put(call.group(1), exceptions);
                checks.same(call.group(1) + " throws nothing", call.group(2).equals("nothing"), exceptions.isEmpty());
            }
        }
        checks.same("the calls", told, face);
    }

    /** The calls of the document's face, each with what it may throw. */
    private static Map<String, List<String>> face() throws IOException {
        Map<String, List<String>> face = new TreeMap<>();
        for (String line : Files.readAllLines(Path.of("../shared/DOC.md"))) {
            Matcher call = FACE.matcher(line);
            if (call.matches()) {
                face.put(call.group(1), call.group(2) == null ? List.of() : List.of(call.group(2).split(", ")));
            }
        }
        return face;
    }

    private void everyTestIsNamed() throws IOException {
        checks.about("the tests in README.md");
        try (Stream<Path> files = Files.list(TESTS)) {
            for (String file : files.map(path -> path.getFileName().toString()).sorted().toList()) {
                String name = file.replace(".java", "");
                boolean named = lines.stream().anyMatch(line -> line.contains("`" + name + "`"));
                checks.same(name + " is named", named, true);
            }
        }
        checks.same(".ci/run is named", lines.stream().anyMatch(line -> line.contains("`.ci/run`")), true);
    }

    private void namedTestsAreThere() throws IOException {
        checks.about("the methods of tests that README.md names");
        for (String line : lines) {
            Matcher named = METHODS_OF_TESTS.matcher(line);
            while (named.find()) {
                for (String test : all(NAME, named.group(2))) {
                    String text = Files.readString(TESTS.resolve(test + ".java"));
                    for (String method : all(NAME, named.group(1))) {
                        boolean called = text.contains("test." + method + "();");
                        checks.same(method + " of " + test + " is called", called, true);
                    }
                }
            }
        }
    }

    private static List<String> all(Pattern pattern, String text) {
        List<String> found = new ArrayList<>();
        Matcher matcher = pattern.matcher(text);
        while (matcher.find()) {
            found.add(matcher.group(1));
        }
        return found;
    }
}
