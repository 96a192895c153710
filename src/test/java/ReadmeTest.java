import java.io.IOException;
import java.lang.reflect.Method;
import java.lang.reflect.Modifier;
import java.nio.file.Files;
import java.nio.file.Path;
import java.util.Arrays;
import java.util.Set;
import java.util.TreeSet;
import java.util.regex.MatchResult;
import java.util.regex.Pattern;
import java.util.stream.Collectors;
import java.util.stream.Stream;

/** What README.md tells is so: the answers in its example, the calls in its tables, the tests in its list. */
public final class ReadmeTest {
    private static final Path README = Path.of("README.md");
    private static final Path TESTS = Path.of("src", "test", "java");
    private static final Pattern MADE = Pattern.compile("(?m)^TJoins map = new TJoins\\((-?\\d+)\\);");
    private static final Pattern CALL = Pattern.compile("(?m)^map\\.(.*)$");
    private static final Pattern ANSWERED = Pattern.compile("(\\w+)\\(([-\\d, ]*)\\); +// (-?\\d+): .+");
    private static final Pattern ROW = Pattern.compile("(?m)^\\| `(\\w+)\\(([\\w, ]*)\\)` \\|");
    private static final Pattern TEST = Pattern.compile("(?m)^- `(\\w+)`: ");
    private static int wrong = 0;

    private static void check(boolean holds, String what) {
        if (!holds) {
            wrong++;
            System.out.println("not so: " + what);
        }
    }

    public static void main(String[] args) throws IOException, ReflectiveOperationException {
        String text = Files.readString(README);
        example(text);
        calls(text);
        tests(text);
        System.out.println(wrong == 0 ? "the README is as due" : wrong + " things are not as due");
        if (wrong != 0) {
            System.exit(1);
        }
    }

    private static void example(String text) throws ReflectiveOperationException {
        MatchResult made = MADE.matcher(text).results().findFirst().orElse(null);
        check(made != null, "the example makes an object");
        if (made == null) {
            return;
        }
        TJoins map = new TJoins(Integer.parseInt(made.group(1)));
        int told = 0;
        for (MatchResult line : CALL.matcher(text).results().toList()) {
            told++;
            exampleCall(map, line.group(1));
        }
        check(told > 0, "the example asks something");
    }

    private static void exampleCall(TJoins map, String line) throws ReflectiveOperationException {
        MatchResult call = ANSWERED.matcher(line).results().findFirst().orElse(null);
        check(call != null, "a call with its answer: " + line);
        if (call == null) {
            return;
        }
        Object[] numbers = parts(call.group(2)).map(Integer::valueOf).toArray();
        Class<?>[] types = new Class<?>[numbers.length];
        Arrays.fill(types, int.class);
        Object got = TJoins.class.getMethod(call.group(1), types).invoke(map, numbers);
        check(got.equals(Integer.valueOf(call.group(3))), line + " (answered " + got + ")");
    }

    private static Stream<String> parts(String list) {
        return list.isBlank() ? Stream.empty() : Arrays.stream(list.split(", *"));
    }

    private static void calls(String text) {
        Set<String> told = new TreeSet<>();
        for (MatchResult row : ROW.matcher(text).results().toList()) {
            told.add(row.group(1) + "/" + parts(row.group(2)).count());
        }
        Set<String> there = new TreeSet<>();
        for (Method method : TJoins.class.getDeclaredMethods()) {
            if (Modifier.isPublic(method.getModifiers())) {
                there.add(method.getName() + "/" + method.getParameterCount());
            }
        }
        check(told.equals(there), "the calls of the tables " + told + " are " + there);
    }

    private static void tests(String text) throws IOException {
        Set<String> told = TEST.matcher(text).results().map(found -> found.group(1))
            .collect(Collectors.toCollection(TreeSet::new));
        Set<String> there;
        try (Stream<Path> files = Files.list(TESTS)) {
            there = files.map(file -> file.getFileName().toString().replace(".java", ""))
                .collect(Collectors.toCollection(TreeSet::new));
        }
        check(told.equals(there), "the tests of the list " + told + " are " + there);
    }
}
