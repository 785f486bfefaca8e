import java.io.IOException;
import java.lang.reflect.Method;
import java.lang.reflect.Modifier;
import java.nio.file.Files;
import java.nio.file.Path;
import java.util.List;
import java.util.regex.Matcher;
import java.util.regex.Pattern;

/** README.md: its example answers what it says, and each call of the face has a row. */
public final class ReadmeTest {
    private static final List<String> NAMES = List.of("NONE", "BAD", "NO", "FULL");
    private static final Pattern TELL = Pattern.compile("tell\\(r, \"(.*)\"\\);");
    private static final Pattern CALL = Pattern.compile("r\\.(\\w+)\\(([-\\d, ]*)\\);\\s+// (-?\\w+): .*");

    public static void main(String[] args) throws ReflectiveOperationException, IOException {
        String page = Files.readString(Path.of("README.md"));
        example(page.substring(page.indexOf("SpeltRoutes r = new"), page.indexOf("## Arguments")));
        rows(page.substring(page.indexOf("## Answers"), page.indexOf("## Refusals")));
        Due.end();
    }

    private static void example(String code) throws ReflectiveOperationException {
        SpeltRoutes r = new SpeltRoutes();
        int calls = 0;
        for (String row : code.split("\n")) {
            Matcher tell = TELL.matcher(row);
            Matcher call = CALL.matcher(row);
            if (tell.matches()) {
                Due.text(r, tell.group(1));
            } else if (call.matches()) {
                calls++;
                Due.is(row, answer(r, call.group(1), call.group(2)), due(call.group(3)));
            } else {
                Due.holds("a row to be understood: " + row, row.isEmpty() || row.startsWith("```")
                        || row.equals("SpeltRoutes r = new SpeltRoutes();"));
            }
        }
        Due.holds("calls in the example: " + calls, calls > 20);
    }

    private static long answer(SpeltRoutes r, String name, String numbers) throws ReflectiveOperationException {
        String[] each = numbers.isEmpty() ? new String[0] : numbers.split(", ");
        Class<?>[] types = new Class<?>[each.length];
        Object[] values = new Object[each.length];
        for (int i = 0; i < each.length; i++) {
            types[i] = int.class;
            values[i] = Integer.valueOf(each[i]);
        }
        Number got = (Number) SpeltRoutes.class.getMethod(name, types).invoke(r, values);
        return got.longValue();
    }

    private static long due(String told) {
        int name = NAMES.indexOf(told);
        return name >= 0 ? -1 - name : Long.parseLong(told);
    }

    private static void rows(String table) {
        for (Method m : SpeltRoutes.class.getDeclaredMethods()) {
            if (Modifier.isPublic(m.getModifiers())) {
                Matcher row = Pattern.compile("\n\\| `" + m.getName() + "\\(([^)]*)\\)` \\|").matcher(table);
                boolean is = row.find();
                Due.holds("a row for " + m.getName(), is);
                int many = !is || row.group(1).isEmpty() ? 0 : row.group(1).split(", ").length;
                Due.is("arguments of " + m.getName(), many, m.getParameterCount());
            }
        }
    }
}
