import java.lang.reflect.Array;
import java.lang.reflect.Constructor;
import java.lang.reflect.Field;
import java.lang.reflect.Method;
import java.lang.reflect.Modifier;
import java.nio.charset.StandardCharsets;
import java.nio.file.Files;
import java.nio.file.Path;
import java.util.ArrayList;
import java.util.Collections;
import java.util.IdentityHashMap;
import java.util.List;
import java.util.Set;
import java.util.TreeSet;

/** What of LANGUAGE.md can be seen in the source's text and in the compiled classes, and that no call ever throws. */
public final class LanguageTests {
    private static final String FACE = "int guest(int,int);boolean liking(int,int,int);boolean sit(int,int);"
            + "int feed(int,int,int,int,int);int law(int);int two(int,int,int);int worth(int,int);"
            + "int rain(int,int,int);int soonest(int,int,int);int rumour(int,int,int);int speech(int,int,int);"
            + "int heard(int,int);long smuggled(int,int,int);int sum();int seating(int,int,int);int exchange(int);"
            + "int exchanges();int strays();int home();boolean heir(int,int);int dies(int);boolean knives(int,int);"
            + "boolean put(int,int,int);int counted(int,int,int,int);int missing(int);int wrong();int gives(int,int);"
            + "int passes(int,int,int);int eats(int,int);int fed(int,int);int led(int,int);boolean seed(int);"
            + "int draw(int);int keep();boolean undo();int check(int,int);int count(int)";

    private static int bad;

    private static void must(boolean so, String what) {
        if (!so) {
            bad++;
            System.out.println("not so: " + what);
        }
    }

    private static String told(Method m) {
        StringBuilder s = new StringBuilder(m.getReturnType().getName() + " " + m.getName() + "(");
        String between = "";
        for (Class<?> p : m.getParameterTypes()) {
            s.append(between).append(p.getName());
            between = ",";
        }
        return s.append(')').toString();
    }

    private static void face() {
        Class<?> c = BorderTable.class;
        must(Modifier.isFinal(c.getModifiers()) && Modifier.isPublic(c.getModifiers()), "the class is public, final");
        Set<String> due = new TreeSet<>(List.of(FACE.split(";")));
        Set<String> names = new TreeSet<>();
        Set<String> found = new TreeSet<>();
        for (Method m : c.getDeclaredMethods()) {
            if (Modifier.isPublic(m.getModifiers())) {
                found.add(told(m));
                names.add(m.getName());
            } else {
                must(Modifier.isPrivate(m.getModifiers()), m + " is private");
            }
        }
        must(due.equals(found), "the public methods are the document's: " + found);
        for (Constructor<?> k : c.getDeclaredConstructors()) {
            must(Modifier.isPublic(k.getModifiers()) && k.getParameterCount() == 0, k + " is the document's");
        }
        for (Field f : c.getDeclaredFields()) {
            must(Modifier.isPrivate(f.getModifiers()) || f.getName().equals("NONE"), f + " is private");
        }
        List<Class<?>> all = new ArrayList<>(List.of(c.getDeclaredClasses()));
        for (Class<?> n : all) {
            must(Modifier.isStatic(n.getModifiers()) && !Modifier.isPublic(n.getModifiers()), n + " is static, not public");
            for (Method m : n.getDeclaredMethods()) {
                must(!names.contains(m.getName()), m + " bears no public name");
            }
        }
        all.add(c);
        must(all.size() <= 12, "twelve classes at most: " + all.size());
        for (Class<?> n : all) {
            sizes(n);
        }
    }

    private static void sizes(Class<?> n) {
        int fields = 0;
        for (Field f : n.getDeclaredFields()) {
            boolean constant = Modifier.isStatic(f.getModifiers());
            must(!constant || Modifier.isFinal(f.getModifiers()), f + " is final");
            fields += constant ? 0 : 1;
        }
        must(fields <= 20, n + " has twenty fields at most: " + fields);
        for (Method m : n.getDeclaredMethods()) {
            must(m.getParameterCount() <= 7, m + " has seven parameters at most");
            must(m.getExceptionTypes().length == 0, m + " tells of no exception");
        }
    }

    private static void text() throws Exception {
        List<String> lines = Files.readAllLines(Path.of("src/main/java/BorderTable.java"), StandardCharsets.UTF_8);
        String[] never = {"->", "::", "throw ", "catch", "try ", "finally", "synchronized", "assert ", "import ",
            "package ", "Exact(", "System.out", "record ", "yield ", "var ", "hashCode", "toString", "native "};
        Set<String> library = Set.of("Math.abs", "Math.max", "Math.min", "Integer.bitCount", "System.arraycopy");
        for (int k = 0; k < lines.size(); k++) {
            String line = lines.get(k);
            must(line.length() <= 120, "line " + (k + 1) + " has 120 signs at most");
            must(line.chars().allMatch(c -> c < 127 && c != '\t'), "line " + (k + 1) + " is plain");
            String code = line.trim();
            if (code.startsWith("*") || code.startsWith("/*") || code.startsWith("//")) {
                continue;
            }
            for (String word : never) {
                must(!code.contains(word), "line " + (k + 1) + " has no " + word);
            }
            for (String word : code.split("[^A-Za-z.]+")) {
                boolean asked = word.startsWith("Math.") || word.startsWith("Integer.") || word.startsWith("System.")
                        || word.startsWith("Long.") || word.startsWith("Arrays.");
                must(!asked || library.contains(word), "line " + (k + 1) + ": " + word + " is in the list");
            }
        }
        methods(lines);
    }

    /** Finds each method's first and last line. */
    private static void methods(List<String> lines) {
        int from = -1;
        String end = "";
        for (int k = 0; k < lines.size(); k++) {
            String line = lines.get(k);
            if (from < 0 && line.matches("( {4}| {8})(?!if|for|while|switch|do)[a-zA-Z].*\\) \\{")) {
                from = k;
                end = line.substring(0, line.indexOf(line.trim())) + "}";
            } else if (from >= 0 && line.equals(end)) {
                must(k - from < 60, "the method at line " + (from + 1) + " is short");
                noSelfCall(lines, from, k);
                noNewObject(lines, from, k);
                from = -1;
            }
        }
        must(from < 0, "each method ends");
    }

    /** Rule 8 knows methods of objects that call one another, none that calls itself. */
    private static void noSelfCall(List<String> lines, int from, int to) {
        String name = lines.get(from).replaceFirst("\\(.*", "").replaceFirst(".* ", "");
        for (int k = from + 1; k < to; k++) {
            boolean calls = lines.get(k).matches(".*(?<![\\w.])" + name + "\\(.*");
            must(!calls, "line " + (k + 1) + ": " + name + " does not call itself");
        }
    }

    /** All calls of a run live in one room: what a table needs is made with it. */
    private static void noNewObject(List<String> lines, int from, int to) {
        boolean makesTable = lines.get(from).contains("public BorderTable(");
        for (int k = from + 1; k < to && !makesTable; k++) {
            must(!lines.get(k).contains("new "), "line " + (k + 1) + " makes no object");
        }
    }

    /** How much room a table takes: its objects and rows, their fields and elements. */
    private static void room() throws Exception {
        Set<Object> seen = Collections.newSetFromMap(new IdentityHashMap<>());
        int size = measure(new BorderTable(), seen);
        must(seen.size() < 100, "a table has less than 100 objects and rows: " + seen.size());
        must(size < 60000, "a table has less than 60000 fields and elements: " + size);
    }

    private static int measure(Object o, Set<Object> seen) throws Exception {
        if (o == null || !seen.add(o)) {
            return 0;
        }
        if (o.getClass().isArray()) {
            return Array.getLength(o);
        }
        int size = 0;
        for (Field f : o.getClass().getDeclaredFields()) {
            if (!Modifier.isStatic(f.getModifiers())) {
                f.setAccessible(true);
                size += 1 + (f.getType().isPrimitive() ? 0 : measure(f.get(o), seen));
            }
        }
        return size;
    }

    private static BorderTable someTable(Chance chance) {
        BorderTable t = new BorderTable();
        int guests = chance.below(17);
        for (int g = 0; g < guests; g++) {
            t.guest(chance.below(2), chance.below(16));
        }
        Asking.law(t, chance.richLaw());
        return t;
    }

    /** Calls with the oddest numbers, more of them than an object is used for. */
    private static void oddNumbers() throws Exception {
        int[] odd = {0, 1, -1, 2, -2, 3, 6, 7, 9, 10, 15, 16, 17, 19, 20, 35, 36, 39, 40, 60, 79, 80, 99, 127, 200, 220,
            255, 999, 1000, 65535, 65536, 1 << 30, Integer.MAX_VALUE, Integer.MIN_VALUE, Integer.MIN_VALUE + 1};
        Chance chance = new Chance(99);
        Method[] methods = BorderTable.class.getDeclaredMethods();
        java.util.Arrays.sort(methods, (a, b) -> told(a).compareTo(told(b)));
        BorderTable t = new BorderTable();
        for (int call = 0; call < 200000; call++) {
            if (call % 3000 == 0) {
                t = someTable(chance);
            }
            Method m = methods[chance.below(methods.length)];
            if (!Modifier.isPublic(m.getModifiers())) {
                continue;
            }
            Object[] arguments = new Object[m.getParameterCount()];
            for (int k = 0; k < arguments.length; k++) {
                arguments[k] = chance.one(3) ? odd[chance.below(odd.length)] : chance.below(8);
            }
            try {
                m.invoke(t, arguments);
            } catch (java.lang.reflect.InvocationTargetException e) {
                must(false, told(m) + " " + java.util.Arrays.toString(arguments) + ": " + e.getCause());
                return;
            }
        }
    }

    public static void main(String[] args) throws Exception {
        face();
        text();
        room();
        oddNumbers();
        System.out.println(bad == 0 ? "the language is kept to" : bad + " rules are not kept to");
        if (bad != 0) {
            System.exit(1);
        }
    }
}
