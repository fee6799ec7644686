import java.io.IOException;
import java.lang.reflect.InvocationTargetException;
import java.lang.reflect.Method;
import java.lang.reflect.Modifier;
import java.nio.file.Files;
import java.nio.file.Path;
import java.util.HashSet;
import java.util.List;
import java.util.Set;
import java.util.regex.Matcher;
import java.util.regex.Pattern;

/** README.md says of promises 1 to 23 how to use the class: its examples answer as they stand there. */
final class ReadmeTests {
    private static final Path README = Path.of("README.md");
    private static final String NEW_STORE = "Keysapart store = new Keysapart();";
    private static final Pattern CALL =
        Pattern.compile("store\\.(\\w+)\\(([^)]*)\\);(?:\\s*// ([^,]+)(?:,.*)?)?");

    private final Checks checks;

    ReadmeTests(Checks checks) {
        this.checks = checks;
    }

    void run() {
        checks.test("README, 1 to 23: the examples", this::examples);
        checks.test("README, 2 to 23: an example of every call", this::everyCall);
        checks.test("README: how to run the tests", this::howToRun);
    }

    private void examples() {
        Keysapart store = null;
        boolean inExample = false;
        for (String line : lines()) {
            if (line.startsWith("```")) {
                inExample = line.equals("```java");
            } else if (inExample && line.equals(NEW_STORE)) {
                store = new Keysapart();
            } else if (inExample) {
                example(store, line);
            }
        }
        checks.due("an example was found", store != null, true);
    }

    private void example(Keysapart store, String line) {
        Matcher call = CALL.matcher(line);
        if (store == null || !call.matches()) {
            checks.wrong("not to be understood: " + line);
            return;
        }
        String want = call.group(3) == null ? "null" : call.group(3).trim();
        String none = String.valueOf(Keysapart.NONE);
        checks.due(line, answer(store, call.group(1), call.group(2)), want.equals("NONE") ? none : want);
    }

    private static String answer(Keysapart store, String name, String numbers) {
        String[] texts = numbers.isEmpty() ? new String[0] : numbers.split(", ");
        Object[] arguments = new Object[texts.length];
        Class<?>[] types = new Class<?>[texts.length];
        for (int k = 0; k < texts.length; k++) {
            arguments[k] = Integer.valueOf(texts[k]);
            types[k] = int.class;
        }
        try {
            return String.valueOf(Keysapart.class.getMethod(name, types).invoke(store, arguments));
        } catch (InvocationTargetException e) {
            return "throws " + e.getCause().getClass().getSimpleName();
        } catch (ReflectiveOperationException e) {
            return "no such call";
        }
    }

    private void everyCall() {
        Set<String> shown = new HashSet<>();
        for (String line : lines()) {
            Matcher call = CALL.matcher(line);
            if (call.matches()) {
                shown.add(call.group(1));
            }
        }
        for (Method method : Keysapart.class.getDeclaredMethods()) {
            if (Modifier.isPublic(method.getModifiers())) {
                checks.due("an example of " + method.getName(), shown.contains(method.getName()), true);
            }
        }
    }

    private void howToRun() {
        checks.due("a line that is .ci/run", lines().contains(".ci/run"), true);
        checks.due(".ci/run can be run", Files.isExecutable(Path.of(".ci/run")), true);
    }

    private static List<String> lines() {
        try {
            return Files.readAllLines(README);
        } catch (IOException e) {
            throw new IllegalStateException(e);
        }
    }
}
