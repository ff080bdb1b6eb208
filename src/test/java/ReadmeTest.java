import java.io.IOException;
import java.lang.reflect.InvocationTargetException;
import java.lang.reflect.Method;
import java.lang.reflect.Modifier;
import java.nio.ByteBuffer;
import java.nio.charset.StandardCharsets;
import java.nio.file.Files;
import java.nio.file.Path;
import java.util.List;
import java.util.TreeSet;
import java.util.regex.Matcher;
import java.util.regex.Pattern;

/** What README.md says of the calls is so: its examples are run line by line, with the answers that stand behind. */
public final class ReadmeTest {
    private static final Pattern CALL = Pattern.compile("x\\.(\\w+)\\((.*?)\\);(?: +// (.*))?");
    private static final Pattern ANSWER = Pattern.compile("(throws \\w+|true|false|-?\\d+)(?:: .*)?");
    private static final Pattern BYTES = Pattern.compile(".*\"(.{20})\"");
    private static final Pattern CALL_ROW = Pattern.compile("\\| `(\\w+)\\((.*)\\)` \\| .* \\| (.*) \\|");
    private static final Pattern FAULT_ROW = Pattern.compile("\\| (\\d) \\| .* \\| (\\d+) \\| `(.*)` \\|");
    private static final TreeSet<String> CALLED = new TreeSet<>();
    private static final TreeSet<String> TOLD = new TreeSet<>();
    private static StreamNodes x = new StreamNodes();

    private ReadmeTest() {
    }

    public static void main(String[] args) throws IOException {
        List<String> lines = Files.readAllLines(Path.of("README.md"));
        examples(lines);
        calls(lines);
        faults(lines);
        TreeSet<String> face = face();
        Check.same("README.md has examples of " + CALLED + " and not of others of " + face, CALLED.equals(face), true);
        Check.same("README.md tells of " + TOLD + " and not of others of " + face, TOLD.equals(face), true);
        Check.finish(ReadmeTest.class);
    }

    private static TreeSet<String> face() {
        TreeSet<String> names = new TreeSet<>();
        for (Method method : StreamNodes.class.getDeclaredMethods()) {
            if (Modifier.isPublic(method.getModifiers())) {
                names.add(method.getName());
            }
        }
        return names;
    }

    private static void examples(List<String> lines) {
        boolean inside = false;
        for (String line : lines) {
            if (line.startsWith("```")) {
                inside = line.equals("```java");
            } else if (inside && !line.isEmpty()) {
                example(line);
            }
        }
    }

    private static void example(String line) {
        if (line.equals("StreamNodes x = new StreamNodes();")) {
            x = new StreamNodes();
            return;
        }
        Matcher call = CALL.matcher(line);
        Check.same("README.md: this line is a call: " + line, call.matches(), true);
        if (call.matches()) {
            CALLED.add(call.group(1));
            String due = answerOf(call.group(3));
            String got = run(call.group(1), call.group(2));
            Check.same("README.md: " + line + " answered " + got, got.equals(due), true);
            bytes(line, call.group(1), call.group(2));
        }
    }

    private static String answerOf(String comment) {
        Matcher answer = ANSWER.matcher(comment == null ? "" : comment);
        return answer.matches() ? answer.group(1) : "nothing";
    }

    private static String run(String name, String arguments) {
        for (Method method : StreamNodes.class.getDeclaredMethods()) {
            if (method.getName().equals(name) && Modifier.isPublic(method.getModifiers())) {
                return run(method, numbers(arguments));
            }
        }
        return "no such call";
    }

    private static String run(Method method, Object[] arguments) {
        try {
            Object answer = method.invoke(x, arguments);
            return answer == null ? "nothing" : answer.toString();
        } catch (InvocationTargetException e) {
            return "throws " + e.getCause().getClass().getSimpleName();
        } catch (IllegalAccessException | IllegalArgumentException e) {
            return "no such call";
        }
    }

    private static Object[] numbers(String arguments) {
        String[] written = arguments.isEmpty() ? new String[0] : arguments.split(", ");
        Object[] numbers = new Object[written.length];
        for (int i = 0; i < written.length; i++) {
            numbers[i] = Long.decode(written[i]).intValue();
        }
        return numbers;
    }

    /** The text that stands behind a feed is that of its numbers. */
    private static void bytes(String line, String name, String arguments) {
        if (!name.equals("feed")) {
            return;
        }
        ByteBuffer bytes = ByteBuffer.allocate(20);
        for (Object number : numbers(arguments)) {
            bytes.putInt((Integer) number);
        }
        Matcher text = BYTES.matcher(line);
        String got = new String(bytes.array(), StandardCharsets.ISO_8859_1);
        Check.same("README.md: " + line + " brings " + got, text.matches() && text.group(1).equals(got), true);
    }

    /** Each call that README.md tells of has as many arguments, and throws what is told. */
    private static void calls(List<String> lines) {
        for (String line : lines) {
            Matcher row = CALL_ROW.matcher(line);
            if (row.matches()) {
                TOLD.add(row.group(1));
                Check.same("README.md: " + line, isSo(row), true);
            }
        }
    }

    private static boolean isSo(Matcher row) {
        int arguments = row.group(2).isEmpty() ? 0 : row.group(2).split(", ").length;
        for (Method method : StreamNodes.class.getDeclaredMethods()) {
            if (method.getName().equals(row.group(1)) && method.getParameterCount() == arguments) {
                return namesAll(row.group(3), method.getExceptionTypes());
            }
        }
        return false;
    }

    private static boolean namesAll(String told, Class<?>[] thrown) {
        boolean all = thrown.length > 0 || told.equals("-");
        for (Class<?> exception : thrown) {
            all &= told.contains("`" + exception.getSimpleName() + "`: ");
        }
        return all;
    }

    private static void faults(List<String> lines) {
        TreeSet<Integer> told = new TreeSet<>();
        for (String line : lines) {
            Matcher row = FAULT_ROW.matcher(line);
            if (row.matches()) {
                int fault = Integer.parseInt(row.group(1));
                told.add(fault);
                Check.faulty(row.group(3), fault, Integer.parseInt(row.group(2)));
            }
        }
        TreeSet<Integer> due = new TreeSet<>(List.of(1, 2, 3, 4, 5, 6, 7));
        Check.same("README.md tells of the faults " + told, told.equals(due), true);
    }
}
