import java.io.IOException;
import java.lang.reflect.InvocationTargetException;
import java.lang.reflect.Method;
import java.lang.reflect.Modifier;
import java.nio.file.Files;
import java.nio.file.Path;
import java.util.TreeSet;
import java.util.regex.Matcher;
import java.util.regex.Pattern;
import java.util.stream.Stream;

/** What README.md says: its example line by line, its calls and its tests; run from the project's own folder. */
public final class ReadmeTest {
    private static final Pattern EXAMPLE = Pattern.compile("(?m)^boat\\.(\\w+)\\(([^)]*)\\); +// ([^\\s:]+)");
    private static final Pattern TABLE_CALL = Pattern.compile("(?m)^\\| `(\\w+)\\(([^)]*)\\)` \\|");

    public static void main(String[] args) throws IOException, ReflectiveOperationException {
        String readme = Files.readString(Path.of("README.md"));
        example(readme);
        calls(readme);
        tests(readme);
        Due.end();
    }

    private static void example(String readme) throws ReflectiveOperationException {
        Due.yes("how the object is made", readme.contains("\nBottomWalks boat = new BottomWalks(10, 8);"));
        BottomWalks boat = new BottomWalks(10, 8);
        Matcher line = EXAMPLE.matcher(readme);
        int lines = 0;
        while (line.find()) {
            Object got = call(boat, line.group(1), line.group(2).split(", "));
            Due.yes(line.group() + " answered " + got, line.group(3).equals("" + got));
            lines++;
        }
        Due.whole("each line of the example tells its answer", count("\nboat\\.", readme), lines);
        Due.yes("there is an example", lines > 0);
    }

    private static Object call(BottomWalks boat, String name, String[] words)
            throws IllegalAccessException, InvocationTargetException {
        Method method = methodOf(name);
        Class<?>[] types = method.getParameterTypes();
        Object[] values = new Object[words.length];
        for (int i = 0; i < words.length; i++) {
            boolean isWhole = types[i] == int.class;
            values[i] = isWhole ? (Object) Integer.valueOf(words[i]) : (Object) Double.valueOf(words[i]);
        }
        return method.invoke(boat, values);
    }

    private static Method methodOf(String name) {
        for (Method method : BottomWalks.class.getDeclaredMethods()) {
            if (method.getName().equals(name)) {
                return method;
            }
        }
        throw new IllegalArgumentException("no call " + name);
    }

    /** Each call of the face stands in a table with as many arguments as it has; run stands in a line of its own. */
    private static void calls(String readme) {
        TreeSet<String> due = new TreeSet<>();
        for (Method method : BottomWalks.class.getDeclaredMethods()) {
            if (Modifier.isPublic(method.getModifiers())) {
                due.add(method.getName() + " of " + method.getParameterCount());
            }
        }
        TreeSet<String> told = new TreeSet<>();
        Matcher row = TABLE_CALL.matcher(readme);
        while (row.find()) {
            told.add(row.group(1) + " of " + (row.group(2).isEmpty() ? 0 : row.group(2).split(", ").length));
        }
        Due.whole("run(pings, steep)", 1, count("\n`run\\(pings, steep\\)` ", readme));
        told.add("run of 2");
        Due.yes("calls told: " + told + ", due: " + due, told.equals(due));
    }

    private static void tests(String readme) throws IOException {
        TreeSet<String> due = new TreeSet<>();
        try (Stream<Path> files = Files.list(Path.of("src/test/java"))) {
            files.forEach(file -> due.add(file.getFileName().toString().replace(".java", "")));
        }
        TreeSet<String> told = new TreeSet<>();
        Matcher name = Pattern.compile("`(\\w*Test|Due|Boats|Answers|Plain)`").matcher(readme);
        while (name.find()) {
            told.add(name.group(1));
        }
        Due.yes("tests told: " + told + ", due: " + due, told.equals(due));
    }

    private static int count(String pattern, String text) {
        Matcher matcher = Pattern.compile(pattern).matcher(text);
        int found = 0;
        while (matcher.find()) {
            found++;
        }
        return found;
    }
}
