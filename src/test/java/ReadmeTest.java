import java.io.IOException;
import java.lang.reflect.Method;
import java.lang.reflect.Modifier;
import java.nio.charset.StandardCharsets;
import java.nio.file.Files;
import java.nio.file.Path;
import java.util.Arrays;
import java.util.List;
import java.util.Set;
import java.util.TreeSet;
import java.util.regex.Matcher;
import java.util.regex.Pattern;
import java.util.stream.Collectors;
import java.util.stream.Stream;

/** What README.md says is so: its calls answer what stands behind them, and it tells of every call and every test. */
public final class ReadmeTest {
    private static final Path README = Path.of("README.md");
    private static final Path DOCUMENT = Path.of("../shared/DOC.md");
    private static final Path TESTS = Path.of("src/test/java");
    private static final Pattern CALL = Pattern.compile("    x\\.(\\w+)\\(([-\\d, ]*)\\); +// (-?\\d+): .+");
    private static final Pattern FED = Pattern.compile("    for \\(char letter : \"(.*)\"\\.toCharArray\\(\\)\\) x\\.feed\\(letter\\);");
    private static int wrong = 0;
    private static int right = 0;

    public static void main(String[] args) throws ReflectiveOperationException, IOException {
        List<String> lines = Files.readAllLines(README, StandardCharsets.UTF_8);
        callsAnswerAsTold(lines);
        callsAreTold(lines);
        refusalsAreTold(lines);
        testsAreTold(lines);
        System.out.println("ReadmeTest: " + right + " right, " + wrong + " wrong");
        if (wrong != 0) {
            System.exit(1);
        }
    }

    private static void expect(boolean is, String what) {
        if (is) {
            right++;
        } else {
            wrong++;
            System.out.println(what);
        }
    }

    private static void callsAnswerAsTold(List<String> lines) throws ReflectiveOperationException {
        ListenerIsTired x = new ListenerIsTired();
        int calls = 0;
        for (String line : lines) {
            Matcher call = CALL.matcher(line);
            Matcher fed = FED.matcher(line);
            if (fed.matches()) {
                for (char letter : fed.group(1).toCharArray()) {
                    x.feed(letter);
                }
            } else if (call.matches()) {
                calls++;
                long got = answer(x, call.group(1), call.group(2));
                expect(got == Long.parseLong(call.group(3)), "answered " + got + ":" + line);
            } else if (line.contains("x.")) {
                expect(false, "a call that can't be read:" + line);
            }
        }
        expect(calls > 20, "calls with an answer: " + calls);
    }

    private static long answer(ListenerIsTired x, String name, String values) throws ReflectiveOperationException {
        Object[] given = Arrays.stream(values.split(",")).map(String::trim).filter(s -> !s.isEmpty())
                .map(Integer::valueOf).toArray();
        Class<?>[] types = new Class<?>[given.length];
        Arrays.fill(types, int.class);
        return ((Number) ListenerIsTired.class.getMethod(name, types).invoke(x, given)).longValue();
    }

    /** Each call of the face has its row, with the document's words for what it takes, and there is no other row. */
    private static void callsAreTold(List<String> lines) throws IOException {
        Set<String> due = new TreeSet<>();
        Matcher m = Pattern.compile("public (?:int|long) (\\w+\\(.*?\\));").matcher(Files.readString(DOCUMENT));
        while (m.find()) {
            due.add(m.group(1).replace("int ", ""));
        }
        expect(due.size() == 29, "the document's calls are found: " + due.size());
        Set<String> told = rows(lines, "\\| `(\\w+\\(.*?\\))` \\| .+ \\|");
        expect(due.equals(told), "rows for " + told + ", due are " + due);
        Set<String> names = Arrays.stream(ListenerIsTired.class.getDeclaredMethods())
                .filter(method -> Modifier.isPublic(method.getModifiers())).map(Method::getName)
                .collect(Collectors.toCollection(TreeSet::new));
        Set<String> toldNames = told.stream().map(s -> s.substring(0, s.indexOf('('))).collect(Collectors.toCollection(TreeSet::new));
        expect(names.equals(toldNames), "names told are " + toldNames + ", the face's are " + names);
    }

    private static void refusalsAreTold(List<String> lines) {
        Set<String> due = new TreeSet<>(List.of("NONE` (" + ListenerIsTired.NONE, "BAD` (" + ListenerIsTired.BAD,
                "STATE` (" + ListenerIsTired.STATE, "FULL` (" + ListenerIsTired.FULL, "NO` (" + ListenerIsTired.NO));
        Set<String> told = rows(lines, "\\| `([A-Z]+` \\(-?\\d+)\\) \\| .+ \\|");
        expect(due.equals(told), "refusals told are " + told + ", due are " + due);
    }

    private static Set<String> rows(List<String> lines, String row) {
        return lines.stream().map(Pattern.compile(row)::matcher).filter(Matcher::matches).map(m -> m.group(1))
                .collect(Collectors.toCollection(TreeSet::new));
    }

    private static void testsAreTold(List<String> lines) throws IOException {
        Set<String> due;
        try (Stream<Path> files = Files.list(TESTS)) {
            due = files.map(file -> file.getFileName().toString().replace(".java", "")).filter(name -> name.endsWith("Test"))
                    .collect(Collectors.toCollection(TreeSet::new));
        }
        Set<String> told = rows(lines, "- `(\\w+)`: .+");
        expect(due.equals(told), "tests told are " + told + ", due are " + due);
        expect(lines.contains("    .ci/run"), "how all tests are run");
        expect(Files.isExecutable(Path.of(".ci/run")), ".ci/run can be run");
    }
}
