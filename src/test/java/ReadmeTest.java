import java.io.IOException;
import java.lang.reflect.Method;
import java.nio.file.Files;
import java.nio.file.Path;
import java.util.List;
import java.util.regex.Matcher;
import java.util.regex.Pattern;
import java.util.stream.Collectors;
import java.util.stream.Stream;

/** The examples of README.md, run as they stand there, and its table of tests. */
public final class ReadmeTest {
    private static final Pattern CALL = Pattern.compile("x\\.(\\w+)\\(([^)]*)\\);\\s*// (-?\\d+)(:.*)?");
    private static final String NEW = "OneFurrow x = new OneFurrow();";
    private static final int LEAST_CALLS = 40;
    private static int wrong = 0;

    private static void say(String what) {
        wrong++;
        System.out.println(what);
    }

    public static void main(String[] args) throws IOException, ReflectiveOperationException {
        List<String> lines = Files.readAllLines(Path.of("README.md"));
        examples(lines);
        table(lines);
        System.out.println(wrong == 0 ? "README.md is as the class is" : wrong + " lines are not as due");
        if (wrong != 0) {
            System.exit(1);
        }
    }

    private static void examples(List<String> lines) throws ReflectiveOperationException {
        OneFurrow x = null;
        boolean inside = false;
        int calls = 0;
        for (String line : lines) {
            if (line.startsWith("```")) {
                inside = line.equals("```java");
                x = null;
            } else if (inside && line.equals(NEW)) {
                x = new OneFurrow();
            } else if (inside) {
                run(x, line);
                calls++;
            }
        }
        if (calls < LEAST_CALLS) {
            say("only " + calls + " calls were found");
        }
    }

    private static void run(OneFurrow x, String line) throws ReflectiveOperationException {
        Matcher m = CALL.matcher(line);
        if (x == null || !m.matches()) {
            say("not a call with its answer: " + line);
            return;
        }
        long got = answer(x, m.group(1), m.group(2).isEmpty() ? new String[0] : m.group(2).split(", "));
        if (got != Long.parseLong(m.group(3))) {
            say(line + " answered " + got);
        }
    }

    private static long answer(OneFurrow x, String name, String[] told) throws ReflectiveOperationException {
        for (Method method : OneFurrow.class.getMethods()) {
            if (method.getName().equals(name) && method.getParameterCount() == told.length) {
                Object[] values = new Object[told.length];
                for (int i = 0; i < told.length; i++) {
                    values[i] = value(method.getParameterTypes()[i], told[i]);
                }
                return ((Number) method.invoke(x, values)).longValue();
            }
        }
        say("no such call: " + name + " of " + told.length);
        return Long.MIN_VALUE;
    }

    private static Object value(Class<?> type, String told) {
        if (type == boolean.class) {
            return told.equals("true");
        }
        return type == long.class ? (Object) Long.decode(told) : (Object) Integer.decode(told);
    }

    private static void table(List<String> lines) throws IOException {
        List<String> files;
        try (Stream<Path> all = Files.list(Path.of("src/test/java"))) {
            files = all.map(p -> p.getFileName().toString().replace(".java", "")).collect(Collectors.toList());
        }
        for (String name : files) {
            if (lines.stream().noneMatch(l -> l.startsWith("| `" + name + "` |"))) {
                say("no row of the table for " + name);
            }
        }
        for (String line : lines) {
            if (line.startsWith("| `") && !files.contains(line.substring(3, line.indexOf('`', 3)))) {
                say("no such test: " + line);
            }
        }
    }
}
