import java.io.IOException;
import java.lang.reflect.Method;
import java.lang.reflect.Modifier;
import java.nio.file.Files;
import java.nio.file.Path;
import java.util.HashMap;
import java.util.List;
import java.util.Map;
import java.util.regex.Matcher;
import java.util.regex.Pattern;

/** What README.md tells about the class: its example answers what is written there, and its table has every call. */
public final class ReadmeTest {
    private static final String FIRST = "FeatureUnifier x = new FeatureUnifier();";
    private static final Pattern CALL = Pattern.compile("(?:int (\\w+) = )?x\\.(\\w+)\\((.*?)\\); +// (true|false|-?\\d+)\\b.*");
    private static final Map<String, Integer> names = new HashMap<>();

    public static void main(String[] args) throws IOException, ReflectiveOperationException {
        List<String> lines = Files.readAllLines(Path.of("README.md"));
        example(lines);
        tableOfCalls(lines);
        tableOfCodes(String.join("\n", lines));
        Due.end();
    }

    private static void example(List<String> lines) throws ReflectiveOperationException {
        int first = lines.indexOf(FIRST);
        Due.is("README.md has an example", first >= 0, true);
        FeatureUnifier x = new FeatureUnifier();
        for (int at = first + 1; first >= 0 && !lines.get(at).equals("```"); at++) {
            if (!lines.get(at).isEmpty()) {
                callAsWritten(x, lines.get(at));
            }
        }
    }

    private static void callAsWritten(FeatureUnifier x, String line) throws ReflectiveOperationException {
        Matcher call = CALL.matcher(line);
        boolean readable = call.matches();
        Due.is("call with its answer: " + line, readable, true);
        if (!readable) {
            return;
        }
        Object[] arguments = arguments(call.group(3));
        Object answer = methodNamed(call.group(2)).invoke(x, arguments);
        Due.same(line, String.valueOf(answer), call.group(4));
        if (call.group(1) != null) {
            names.put(call.group(1), (Integer) answer);
        }
    }

    private static Object[] arguments(String written) {
        if (written.isEmpty()) {
            return new Object[0];
        }
        String[] parts = written.split(", ");
        Object[] arguments = new Object[parts.length];
        for (int at = 0; at < parts.length; at++) {
            arguments[at] = names.containsKey(parts[at]) ? names.get(parts[at]) : Integer.valueOf(parts[at]);
        }
        return arguments;
    }

    private static Method methodNamed(String name) throws NoSuchMethodException {
        for (Method method : FeatureUnifier.class.getMethods()) {
            if (method.getName().equals(name)) {
                return method;
            }
        }
        throw new NoSuchMethodException(name);
    }

    private static void tableOfCalls(List<String> lines) {
        for (Method method : FeatureUnifier.class.getDeclaredMethods()) {
            if (Modifier.isPublic(method.getModifiers())) {
                Due.is("rows for " + method.getName(), rowsFor(lines, method), 1);
            }
        }
    }

    private static int rowsFor(List<String> lines, Method method) {
        int count = method.getParameterCount();
        String names = count == 0 ? "" : "\\w+" + ", \\w+".repeat(count - 1);
        Pattern row = Pattern.compile("\\| `" + method.getName() + "\\(" + names + "\\)` \\| .+ \\|");
        int rows = 0;
        for (String line : lines) {
            rows += row.matcher(line).matches() ? 1 : 0;
        }
        return rows;
    }

    private static void tableOfCodes(String text) {
        Due.is("BAD_ARG", text.contains("| `BAD_ARG` (" + FeatureUnifier.BAD_ARG + ") |"), true);
        Due.is("FULL", text.contains("| `FULL` (" + FeatureUnifier.FULL + ") |"), true);
        Due.is("CLASH", text.contains("| `CLASH` (" + FeatureUnifier.CLASH + ") |"), true);
        Due.is("NONE", text.contains("| `NONE` (" + FeatureUnifier.NONE + ") |"), true);
    }
}
