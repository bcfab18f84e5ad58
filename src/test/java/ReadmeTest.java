import java.io.IOException;
import java.lang.reflect.InvocationTargetException;
import java.lang.reflect.Method;
import java.lang.reflect.Modifier;
import java.nio.file.DirectoryStream;
import java.nio.file.Files;
import java.nio.file.Path;
import java.util.List;
import java.util.Set;
import java.util.TreeSet;
import java.util.regex.Matcher;
import java.util.regex.Pattern;

/** README.md: its example answers as it says there, and it names every call and every test. */
public final class ReadmeTest {
    private static final Path TESTS = Path.of("src", "test", "java");
    private static final Pattern MADE =
            Pattern.compile("PrefixSmith smith = new PrefixSmith\\((\\d+), (\\d+)\\);.*");
    private static final Pattern CALL =
            Pattern.compile("smith\\.(\\w+)\\((.*?)\\); *// (-?\\d+)(:.*)?");
    private static final Pattern ROW_OF_CALL = Pattern.compile("\\| `(\\w+)\\((.*?)\\)` \\|.*");
    private static final Pattern TEST = Pattern.compile("`(\\w+Test)`");

    private ReadmeTest() {
    }

    public static void main(String[] args) throws IOException, ReflectiveOperationException {
        List<String> lines = Files.readAllLines(Path.of("README.md"));
        everyCall(lines);
        everyTest(lines);
        example(lines);
        Due.finish();
    }

    /** Each public method of the class has one row in the table of calls, and no other has. */
    private static void everyCall(List<String> lines) {
        Set<String> named = new TreeSet<>();
        for (String line : lines) {
            Matcher row = ROW_OF_CALL.matcher(line);
            if (row.matches()) {
                String call = row.group(1) + " of " + arguments(row.group(2)).length;
                Due.due(call + " has one row", named.add(call) ? 1 : 2, 1);
            }
        }
        Set<String> face = new TreeSet<>();
        for (Method method : PrefixSmith.class.getDeclaredMethods()) {
            if (Modifier.isPublic(method.getModifiers())) {
                face.add(method.getName() + " of " + method.getParameterCount());
            }
        }
        Due.due("the calls of README.md", named.toString(), face.toString());
    }

    private static void everyTest(List<String> lines) throws IOException {
        Set<String> named = new TreeSet<>();
        for (String line : lines) {
            Matcher test = TEST.matcher(line);
            while (line.startsWith("|") && test.find()) {
                named.add(test.group(1));
            }
        }
        Set<String> there = new TreeSet<>();
        try (DirectoryStream<Path> files = Files.newDirectoryStream(TESTS, "*Test.java")) {
            for (Path file : files) {
                there.add(file.getFileName().toString().replace(".java", ""));
            }
        }
        Due.due("the tests of README.md", named.toString(), there.toString());
    }

    private static void example(List<String> lines) throws ReflectiveOperationException {
        int start = lines.indexOf("```java");
        PrefixSmith smith = null;
        int calls = 0;
        for (int i = start + 1; i < lines.size() && !lines.get(i).equals("```"); i++) {
            Matcher made = MADE.matcher(lines.get(i));
            Matcher call = CALL.matcher(lines.get(i));
            if (made.matches()) {
                smith = new PrefixSmith(Integer.parseInt(made.group(1)),
                        Integer.parseInt(made.group(2)));
            } else if (smith != null && call.matches()) {
                long got = answer(smith, call.group(1), arguments(call.group(2)));
                Due.due("README.md, line " + (i + 1), got, Long.parseLong(call.group(3)));
                calls++;
            } else {
                Due.due("README.md, line " + (i + 1) + ": " + lines.get(i), "no call", "a call");
            }
        }
        Due.due("an example with calls", start >= 0 && calls > 0 ? 1 : 0, 1);
    }

    private static String[] arguments(String row) {
        return row.isEmpty() ? new String[0] : row.split(", ");
    }

    private static long answer(PrefixSmith smith, String name, String[] arguments)
            throws IllegalAccessException, InvocationTargetException, NoSuchMethodException {
        for (Method method : PrefixSmith.class.getMethods()) {
            Class<?>[] types = method.getParameterTypes();
            if (method.getName().equals(name) && types.length == arguments.length) {
                Object[] given = new Object[types.length];
                for (int k = 0; k < types.length; k++) {
                    given[k] = number(types[k], arguments[k]);
                }
                return ((Number) method.invoke(smith, given)).longValue();
            }
        }
        throw new NoSuchMethodException(name);
    }

    private static Object number(Class<?> type, String written) {
        return type == long.class ? (Object) Long.decode(written.replace("L", ""))
                : (Object) Integer.decode(written);
    }
}
