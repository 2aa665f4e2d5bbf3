import java.io.IOException;
import java.io.UncheckedIOException;
import java.lang.reflect.Field;
import java.lang.reflect.Method;
import java.lang.reflect.Modifier;
import java.nio.file.Files;
import java.nio.file.Path;
import java.util.HashMap;
import java.util.List;
import java.util.Map;
import java.util.regex.Matcher;
import java.util.regex.Pattern;
import java.util.stream.Stream;

/** README.md: its lines of Java answer what stands behind them, and it leaves out no call and no test. */
public final class ReadmeTest {
    private static final Path README = Path.of("README.md");
    private static final Path TESTS = Path.of("src/test/java");
    private static final String MADE = "DesignTurns design = new DesignTurns();";
    private static final Pattern CALL = Pattern.compile(
            "(?:int (\\w+) = )?design\\.(\\w+)\\((.*?)\\); +// (-?\\d+)(?:: (.*))?");

    private static final Checks checks = new Checks();
    private static final Map<String, Integer> names = new HashMap<>();

    public static void main(String[] args) throws IOException, ReflectiveOperationException {
        String readme = Files.readString(README);
        linesOfJava(readme);
        eachCallIsShown(readme);
        eachRefusalIsShown(readme);
        eachTestIsNamed(readme);
        checks.end();
    }

    private static void linesOfJava(String readme) throws ReflectiveOperationException {
        checks.promise("README.md, lines of Java");
        DesignTurns design = null;
        Matcher block = Pattern.compile("(?s)```java\n(.*?)```").matcher(readme);
        for (; block.find();) {
            for (String line : block.group(1).split("\n")) {
                Matcher call = CALL.matcher(line);
                if (line.equals(MADE)) {
                    design = new DesignTurns();
                } else if (design != null && call.matches()) {
                    run(design, call);
                } else {
                    checks.dueTrue("this can't be run: " + line, line.isEmpty());
                }
            }
        }
        checks.dueTrue("none was run", design != null);
    }

    private static void run(DesignTurns design, Matcher call) throws ReflectiveOperationException {
        Method method = methodOf(call.group(2));
        String[] words = call.group(3).isEmpty() ? new String[0] : call.group(3).split(", ");
        Object[] given = new Object[words.length];
        for (int i = 0; i < words.length; i++) {
            given[i] = method.getParameterTypes()[i] == boolean.class ? Boolean.parseBoolean(words[i])
                    : (Object) numberOf(words[i]);
        }
        long answer = ((Number) method.invoke(design, given)).longValue();
        checks.due(call.group(), answer, Long.parseLong(call.group(4)));
        if (call.group(1) != null) {
            names.put(call.group(1), (int) answer);
        }
        refusalIsNamed(call.group(), answer, call.group(5));
    }

    private static Method methodOf(String name) {
        for (Method method : DesignTurns.class.getDeclaredMethods()) {
            if (method.getName().equals(name) && Modifier.isPublic(method.getModifiers())) {
                return method;
            }
        }
        throw new IllegalStateException("README.md calls " + name + ", which there is not");
    }

    private static int numberOf(String word) {
        return names.containsKey(word) ? names.get(word) : Integer.parseInt(word);
    }

    /** An answer less than 0 is told with the name of its constant. */
    private static void refusalIsNamed(String call, long answer, String told) throws ReflectiveOperationException {
        for (Field constant : DesignTurns.class.getFields()) {
            if (constant.getInt(null) == answer) {
                checks.dueTrue("not named: " + call, told != null && told.startsWith(constant.getName()));
            }
        }
    }

    private static void eachCallIsShown(String readme) {
        checks.promise("README.md, calls");
        for (Method method : DesignTurns.class.getDeclaredMethods()) {
            if (Modifier.isPublic(method.getModifiers())) {
                checks.dueTrue(method.getName() + " is not shown", readme.contains("design." + method.getName() + "("));
            }
        }
    }

    private static void eachRefusalIsShown(String readme) throws ReflectiveOperationException {
        checks.promise("README.md, refusals");
        for (Field constant : DesignTurns.class.getFields()) {
            checks.dueTrue(constant.getName() + " is not shown", readme.contains(constant.getName()));
            checks.dueTrue(constant.getName() + "'s number is not shown",
                    readme.contains(String.valueOf(constant.getInt(null))));
        }
    }

    private static void eachTestIsNamed(String readme) throws IOException {
        checks.promise("README.md, tests");
        checks.dueTrue(".ci/run is not named", readme.contains("`.ci/run`"));
        checks.dueTrue(".ci/run can't be run", Files.isExecutable(Path.of(".ci/run")));
        List<String> tests;
        try (Stream<Path> files = Files.list(TESTS)) {
            tests = files.map(file -> file.getFileName().toString().replace(".java", "")).toList();
        } catch (UncheckedIOException fault) {
            throw fault.getCause();
        }
        for (String test : tests) {
            checks.dueTrue(test + " is not named", readme.contains("`" + test));
        }
        checks.dueTrue("no tests are met", tests.contains("ReadmeTest"));
    }
}
