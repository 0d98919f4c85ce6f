import java.io.IOException;
import java.lang.reflect.Field;
import java.lang.reflect.Method;
import java.lang.reflect.Modifier;
import java.nio.file.DirectoryStream;
import java.nio.file.Files;
import java.nio.file.Path;
import java.util.HashSet;
import java.util.Set;
import java.util.regex.Matcher;
import java.util.regex.Pattern;

/** README.md: its run of calls answers as it says, and it names every call, constant and test. */
public final class ReadmeTest {
    private static final Path README = Path.of("README.md");
    private static final Path TESTS = Path.of("src/test/java");
    // The first word of the comment is the answer; what stands behind a colon explains it.
    private static final Pattern CALL = Pattern.compile("x\\.(\\w+)\\(([^)]*)\\); +// ([^\\s:]+).*");
    private static final Pattern ROW = Pattern.compile("\\| `(\\w+)\\(([^)]*)\\)` \\|.*");

    private static String[] arguments(String list) {
        return list.isEmpty() ? new String[0] : list.split(", ");
    }

    private static Method methodNamed(String name) {
        for (Method method : GraphCanon.class.getMethods()) {
            if (method.getName().equals(name) && method.getDeclaringClass() == GraphCanon.class) {
                return method;
            }
        }
        throw new IllegalStateException("README.md calls " + name + ", which the class does not have");
    }

    private static Object value(String text, Class<?> type) {
        return type == boolean.class ? (Object) Boolean.valueOf(text) : (Object) Integer.valueOf(text);
    }

    private static String answer(GraphCanon x, Method method, String[] given) throws ReflectiveOperationException {
        Class<?>[] types = method.getParameterTypes();
        Object[] values = new Object[given.length];
        for (int i = 0; i < given.length; i++) {
            values[i] = value(given[i], types[i]);
        }
        return String.valueOf(method.invoke(x, values));
    }

    private static Set<String> faceMethods() {
        Set<String> names = new HashSet<>();
        for (Method method : GraphCanon.class.getDeclaredMethods()) {
            if (Modifier.isPublic(method.getModifiers())) {
                names.add(method.getName());
            }
        }
        return names;
    }

    private static void runOfCalls(String readme) throws ReflectiveOperationException {
        GraphCanon x = new GraphCanon();
        Set<String> called = new HashSet<>();
        int lines = 0;
        for (String line : readme.lines().toList()) {
            lines += line.startsWith("x.") ? 1 : 0;
            Matcher call = CALL.matcher(line);
            if (call.matches()) {
                lines--;
                Method method = methodNamed(call.group(1));
                called.add(method.getName());
                String got = answer(x, method, arguments(call.group(2)));
                if (method.getReturnType() != void.class) {
                    Check.due("README.md: " + line, got, call.group(3));
                }
            }
        }
        Check.due("README.md: calls that could not be read", lines, 0);
        Check.due("README.md: the calls in its run", called, faceMethods());
    }

    private static void rowsOfCalls(String readme) {
        Set<String> rows = new HashSet<>();
        for (String line : readme.lines().toList()) {
            Matcher row = ROW.matcher(line);
            if (row.matches() && !row.group(1).equals("GraphCanon")) {
                Method method = methodNamed(row.group(1));
                rows.add(method.getName());
                Check.due("README.md: arguments of " + method.getName(),
                        arguments(row.group(2)).length, method.getParameterCount());
            }
        }
        Check.due("README.md: the calls with a row", rows, faceMethods());
    }

    private static void constants(String readme) throws ReflectiveOperationException {
        for (Field field : GraphCanon.class.getFields()) {
            String told = "| `" + field.getName() + "` (" + field.getInt(null) + ") |";
            Check.due("README.md tells " + told, readme.contains(told), true);
        }
    }

    private static void tests(String readme) throws IOException {
        try (DirectoryStream<Path> files = Files.newDirectoryStream(TESTS, "*.java")) {
            for (Path file : files) {
                String name = file.getFileName().toString().replace(".java", "");
                Check.due("README.md names " + name, readme.contains("`" + name + "`"), true);
            }
        }
    }

    public static void main(String[] args) throws IOException, ReflectiveOperationException {
        String readme = Files.readString(README);
        runOfCalls(readme);
        rowsOfCalls(readme);
        constants(readme);
        tests(readme);
        Check.end();
    }
}
