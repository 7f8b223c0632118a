import java.io.IOException;
import java.lang.reflect.Field;
import java.lang.reflect.Method;
import java.nio.file.Files;
import java.nio.file.Path;
import java.util.List;
import java.util.Map;
import java.util.Set;
import java.util.TreeMap;
import java.util.TreeSet;
import java.util.regex.Matcher;
import java.util.regex.Pattern;

/**
 * Reads README.md of the working directory and makes each call that it shows: every line of its examples must be
 * a new object or a call with its answer, no call with numbers stands elsewhere, and its tables name the class's
 * constants with their values and each method once.
 */
public final class ReadmeTest {
    private static final Pattern NEW_DESK =
        Pattern.compile("SeparationDesk desk = new SeparationDesk\\(\\);(\\s+//.*)?");
    private static final Pattern CALL = Pattern.compile("desk\\.(\\w+)\\(([-\\d, ]*)\\);\\s+// (-?\\d+)(\\D.*)?");
    private static final Pattern CALL_IN_TEXT = Pattern.compile("\\w+\\((?=[^)]*\\d)[-\\d, ]+\\)");
    private static final Pattern ERROR_ROW = Pattern.compile("\\| `([A-Z_]+)` \\| (-?\\d+) \\|.*");
    private static final Pattern METHOD_ROW = Pattern.compile("\\| `(\\w+)\\(([\\w, ]*)\\)` \\|.*");
    private static final Due due = new Due();

    public static void main(String[] args) throws IOException, ReflectiveOperationException {
        List<String> lines = Files.readAllLines(Path.of("README.md"));
        examples(lines);
        errors(lines);
        methods(lines);
        due.holds("the command that runs the tests stands there, which", lines.contains("    .ci/run"));
        due.end();
    }

    private static void examples(List<String> lines) throws ReflectiveOperationException {
        Map<String, Method> methods = methodsOfTheClass();
        Set<String> shown = new TreeSet<>();
        SeparationDesk desk = null;
        boolean code = false;
        for (String line : lines) {
            if (line.startsWith("```")) {
                code = !code;
                desk = null;
            } else if (!code) {
                due.holds("no call outside the examples, in: " + line + ", which",
                    !CALL_IN_TEXT.matcher(line).find());
            } else if (NEW_DESK.matcher(line).matches()) {
                desk = new SeparationDesk();
            } else {
                shown.add(call(line, desk, methods));
            }
        }
        due.holds("the last example ends, which", !code);
        due.is("methods that examples show " + shown, shown.size(), methods.size());
    }

    private static Map<String, Method> methodsOfTheClass() {
        Map<String, Method> methods = new TreeMap<>();
        for (Method method : SeparationDesk.class.getMethods()) {
            if (method.getDeclaringClass() == SeparationDesk.class) {
                methods.put(method.getName(), method);
            }
        }
        return methods;
    }

    /** Makes the call of a line and compares its answer; the answer is the method's name. */
    private static String call(String line, SeparationDesk desk, Map<String, Method> methods)
            throws ReflectiveOperationException {
        Matcher call = CALL.matcher(line);
        boolean understood = desk != null && call.matches() && methods.containsKey(call.group(1));
        due.holds("a call with its answer, in: " + line + ", which", understood);
        if (!understood) {
            return line;
        }
        Object[] values = numbers(call.group(2));
        int got = (Integer) methods.get(call.group(1)).invoke(desk, values);
        due.is(line, got, Integer.parseInt(call.group(3)));
        namedErrors(line, got);
        return call.group(1);
    }

    private static Object[] numbers(String text) {
        if (text.isEmpty()) {
            return new Object[0];
        }
        String[] parts = text.split(", ");
        Object[] numbers = new Object[parts.length];
        for (int i = 0; i < parts.length; i++) {
            numbers[i] = Integer.valueOf(parts[i]);
        }
        return numbers;
    }

    /** An error's name behind a call is the name of what the call answers. */
    private static void namedErrors(String line, int got) throws ReflectiveOperationException {
        for (Field field : SeparationDesk.class.getFields()) {
            if (line.contains(field.getName())) {
                due.is("the error named in: " + line, field.getInt(null), got);
            }
        }
    }

    private static void errors(List<String> lines) throws ReflectiveOperationException {
        Map<String, Integer> want = new TreeMap<>();
        for (Field field : SeparationDesk.class.getFields()) {
            if (field.getInt(null) < 0) {
                want.put(field.getName(), field.getInt(null));
            }
        }
        Map<String, Integer> got = new TreeMap<>();
        for (String line : lines) {
            Matcher row = ERROR_ROW.matcher(line);
            if (row.matches()) {
                got.put(row.group(1), Integer.valueOf(row.group(2)));
            }
        }
        due.holds("the errors are " + want + ", the table has " + got + ", which", want.equals(got));
    }

    private static void methods(List<String> lines) {
        Map<String, Method> methods = methodsOfTheClass();
        Set<String> named = new TreeSet<>();
        for (String line : lines) {
            Matcher row = METHOD_ROW.matcher(line);
            if (row.matches()) {
                String name = row.group(1);
                due.holds(name + " is a method that stands once, which",
                    methods.containsKey(name) && named.add(name));
                int parameters = row.group(2).isEmpty() ? 0 : row.group(2).split(", ").length;
                int want = methods.containsKey(name) ? methods.get(name).getParameterCount() : -1;
                due.is("parameters of " + name, parameters, want);
            }
        }
        due.is("methods in the table", named.size(), methods.size());
    }
}
