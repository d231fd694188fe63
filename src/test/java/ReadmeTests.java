import java.io.IOException;
import java.lang.reflect.InvocationTargetException;
import java.lang.reflect.Method;
import java.lang.reflect.Modifier;
import java.nio.file.Files;
import java.nio.file.Path;
import java.util.Arrays;
import java.util.List;
import java.util.Set;
import java.util.TreeSet;
import java.util.regex.Matcher;
import java.util.regex.Pattern;

/** README.md: the calls of its example answer what it says, and its table has every call. */
public final class ReadmeTests extends Dues {
    private static final Pattern CALL = Pattern.compile("r\\.(\\w+)\\(([-\\d, ]*)\\);\\s*// (-?\\d+): .+");
    private static final Pattern ROW = Pattern.compile("\\| `(\\w+)\\(([\\w, ]*)\\)` \\| .+ \\|");

    private ReadmeTests() {
    }

    public static void main(String[] args) throws IOException, IllegalAccessException, InvocationTargetException {
        List<String> lines = Files.readAllLines(Path.of("README.md"));
        example(lines);
        table(lines);
        end();
    }

    private static void example(List<String> lines) throws IllegalAccessException, InvocationTargetException {
        int start = lines.indexOf("RootShapes r = new RootShapes();");
        due("README.md has an example", start < 0 ? 0 : 1, 1);
        RootShapes r = new RootShapes();
        for (int n = start + 1; start >= 0 && n < lines.size() && !lines.get(n).equals("```"); n++) {
            Matcher call = CALL.matcher(lines.get(n));
            boolean read = call.matches();
            due("README.md's line can be read: " + lines.get(n), read ? 1 : 0, 1);
            if (read) {
                due(lines.get(n), answer(r, call.group(1), numbers(call.group(2))), Integer.parseInt(call.group(3)));
            }
        }
    }

    private static Object[] numbers(String list) {
        return Arrays.stream(list.split(",")).map(String::trim).filter(s -> !s.isEmpty()).map(Integer::valueOf).toArray();
    }

    private static int answer(RootShapes r, String name, Object[] numbers)
            throws IllegalAccessException, InvocationTargetException {
        for (Method m : RootShapes.class.getDeclaredMethods()) {
            if (m.getName().equals(name) && m.getParameterCount() == numbers.length) {
                return (Integer) m.invoke(r, numbers);
            }
        }
        return LEAST;
    }

    private static void table(List<String> lines) {
        Set<String> rows = new TreeSet<>();
        for (String line : lines) {
            Matcher row = ROW.matcher(line);
            if (row.matches()) {
                long parameters = Arrays.stream(row.group(2).split(",")).filter(s -> !s.isBlank()).count();
                rows.add(row.group(1) + " " + parameters);
            }
        }
        Set<String> calls = new TreeSet<>();
        for (Method m : RootShapes.class.getDeclaredMethods()) {
            if (Modifier.isPublic(m.getModifiers())) {
                calls.add(m.getName() + " " + m.getParameterCount());
            }
        }
        due("README.md's table " + rows + " has the calls " + calls, rows.equals(calls) ? 1 : 0, 1);
    }
}
