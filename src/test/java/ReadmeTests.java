import java.lang.reflect.Method;
import java.nio.charset.StandardCharsets;
import java.nio.file.Files;
import java.nio.file.Path;
import java.util.ArrayList;
import java.util.List;
import java.util.regex.Matcher;
import java.util.regex.Pattern;

/** README.md's example is true: each of its calls answers what stands behind it; its table names every call. */
public final class ReadmeTests extends Asking {
    private static final Pattern CALL = Pattern.compile("t\\.(\\w+)\\(([^)]*)\\);\\s*// (-?\\w+).*");

    private static List<String> lines;

    private static Method method(String name) {
        for (Method m : BorderTable.class.getDeclaredMethods()) {
            if (m.getName().equals(name)) {
                return m;
            }
        }
        throw new IllegalStateException("README.md calls " + name + "(), which there is not");
    }

    private static Object[] arguments(String told) {
        List<Object> all = new ArrayList<>();
        for (String one : told.split(",")) {
            String plain = one.trim().replace("_", "");
            if (!plain.isEmpty()) {
                all.add(plain.equals("NONE") ? NONE : Integer.decode(plain));
            }
        }
        return all.toArray();
    }

    /** The example's calls, on one table from its first line to its last. */
    private static void example() throws Exception {
        BorderTable t = new BorderTable();
        int calls = 0;
        for (String line : lines) {
            Matcher m = CALL.matcher(line);
            if (line.startsWith("t.")) {
                calls++;
                due("README.md's line is a call with its answer: " + line, m.matches(), true);
                Object got = method(m.group(1)).invoke(t, arguments(m.group(2)));
                due("README.md: " + line + ": answered " + got, got.toString().equals(m.group(3)), true);
            }
        }
        due("README.md has an example", calls > 0, true);
    }

    private static void table() {
        for (Method m : BorderTable.class.getDeclaredMethods()) {
            if (java.lang.reflect.Modifier.isPublic(m.getModifiers())) {
                String call = "`" + m.getName() + "(";
                due("README.md tells of " + m.getName() + "()",
                        lines.stream().anyMatch(line -> line.startsWith("| ") && line.contains(call)), true);
            }
        }
    }

    public static void main(String[] args) throws Exception {
        lines = Files.readAllLines(Path.of("README.md"), StandardCharsets.UTF_8);
        example();
        table();
        end();
    }
}
