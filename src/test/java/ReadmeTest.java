import java.io.IOException;
import java.io.UncheckedIOException;
import java.lang.reflect.InvocationTargetException;
import java.lang.reflect.Method;
import java.lang.reflect.Modifier;
import java.nio.file.Files;
import java.nio.file.Path;
import java.util.List;
import java.util.regex.Matcher;
import java.util.regex.Pattern;

/** What README.md says of the class: the calls of its example answer so, and its table has every call. */
public final class ReadmeTest extends Sentences {
    private static final Pattern CALL = Pattern.compile("desk\\.(\\w+)\\(([-0-9, ]*)\\); +// (throws \\w+|\\w+|-\\d+)(:.*)?");

    private final List<String> lines = lines();

    public static void main(String[] args) {
        new ReadmeTest().run();
    }

    @Override
    void tests() {
        sentence("README.md: behind each call stands what it answers here", this::example);
        sentence("README.md: the table has every call with its parameters", this::table);
        sentence("README.md: it tells every test", this::testsTold);
    }

    private static List<String> lines() {
        try {
            return Files.readAllLines(Path.of("README.md"));
        } catch (IOException e) {
            throw new UncheckedIOException(e);
        }
    }

    private void example() {
        CoreDesk desk = new CoreDesk();
        int calls = 0;
        for (String line : lines) {
            if (line.startsWith("desk.")) {
                Matcher call = CALL.matcher(line);
                due.yes(line + " has a call and its answer", call.matches());
                due.text(line, answer(desk, call.group(1), call.group(2)), call.group(3));
                calls++;
            }
        }
        due.yes(calls + " calls are enough", calls > 20);
    }

    private static Method method(String name) {
        for (Method m : CoreDesk.class.getDeclaredMethods()) {
            if (Modifier.isPublic(m.getModifiers()) && m.getName().equals(name)) {
                return m;
            }
        }
        throw new IllegalStateException("there is no call " + name);
    }

    private static Object[] values(String arguments) {
        if (arguments.isEmpty()) {
            return new Object[0];
        }
        return Pattern.compile(", ").splitAsStream(arguments).map(Integer::valueOf).toArray();
    }

    private static String answer(CoreDesk desk, String name, String arguments) {
        try {
            return String.valueOf(method(name).invoke(desk, values(arguments)));
        } catch (InvocationTargetException e) {
            return "throws " + e.getCause().getClass().getSimpleName();
        } catch (IllegalAccessException e) {
            throw new IllegalStateException(e);
        }
    }

    private void table() {
        Pattern told = Pattern.compile("`(\\w+)\\(([a-z, ]*)\\)`");
        for (Method m : CoreDesk.class.getDeclaredMethods()) {
            if (Modifier.isPublic(m.getModifiers())) {
                int rows = 0;
                for (String line : lines) {
                    Matcher call = told.matcher(line.startsWith("|") ? line.substring(0, line.indexOf('|', 1)) : "");
                    while (call.find()) {
                        int n = call.group(2).isEmpty() ? 0 : call.group(2).split(", ").length;
                        rows += call.group(1).equals(m.getName()) && n == m.getParameterCount() ? 1 : 0;
                    }
                }
                due.same("rows that tell of " + m, rows, 1);
            }
        }
    }

    private void testsTold() {
        String all = String.join("\n", lines);
        String[] files = Path.of("src/test/java").toFile().list((folder, name) -> name.endsWith("Test.java"));
        due.yes("there are tests", files != null && files.length > 0);
        for (String file : files) {
            due.yes(file, all.contains("`" + file.replace(".java", "") + "`"));
        }
    }
}
