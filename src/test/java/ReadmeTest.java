import java.lang.reflect.Field;
import java.lang.reflect.Method;
import java.lang.reflect.Modifier;
import java.nio.file.Files;
import java.nio.file.Path;
import java.util.HashMap;
import java.util.Map;
import java.util.regex.Matcher;
import java.util.regex.Pattern;

/** README.md names the whole face, and its example answers what it says. */
public final class ReadmeTest {
    static final Pattern CALL_ROW = Pattern.compile("(?m)^\\| `(\\w+)\\(([^)]*)\\)` \\|");
    static final Pattern CONSTANT_ROW = Pattern.compile("(?m)^\\| `([A-Z]+)` \\| (-?\\d+) \\|");
    static final Pattern EXAMPLE = Pattern.compile("(?m)^desk\\.(\\w+)\\(([^)]*)\\);\\s*// (-?\\d+|[A-Z]+)");
    static int wrong = 0;

    static void must(boolean is, String what) {
        if (!is) {
            wrong++;
            System.out.println("not so: " + what);
        }
    }

    static String[] arguments(String list) {
        return list.isBlank() ? new String[0] : list.split(",\\s*");
    }

    static void calls(String page) {
        Map<String, Integer> named = new HashMap<>();
        Matcher row = CALL_ROW.matcher(page);
        while (row.find()) {
            must(named.put(row.group(1), arguments(row.group(2)).length) == null, row.group(1) + " is named once");
        }
        int many = 0;
        for (Method method : RoomsDesk.class.getDeclaredMethods()) {
            if (Modifier.isPublic(method.getModifiers())) {
                many++;
                Integer arguments = named.get(method.getName());
                must(arguments != null && arguments == method.getParameterCount(), method + " is named with its arguments");
            }
        }
        must(named.size() == many, "no other call is named");
    }

    static Map<String, Integer> constants() throws Exception {
        Map<String, Integer> constants = new HashMap<>();
        for (Field field : RoomsDesk.class.getDeclaredFields()) {
            if (Modifier.isPublic(field.getModifiers())) {
                constants.put(field.getName(), field.getInt(null));
            }
        }
        return constants;
    }

    static void constantsAreNamed(String page, Map<String, Integer> constants) {
        Map<String, Integer> rest = new HashMap<>(constants);
        Matcher row = CONSTANT_ROW.matcher(page);
        while (row.find()) {
            Integer value = rest.remove(row.group(1));
            must(value != null && value == Integer.parseInt(row.group(2)), row.group() + " is a constant, named once");
        }
        must(rest.isEmpty(), "each constant is named, also " + rest.keySet());
    }

    static int answer(RoomsDesk desk, String name, String[] arguments) throws Exception {
        Object[] numbers = new Object[arguments.length];
        Class<?>[] types = new Class<?>[arguments.length];
        for (int i = 0; i < arguments.length; i++) {
            numbers[i] = Integer.decode(arguments[i]);
            types[i] = int.class;
        }
        return (Integer) RoomsDesk.class.getMethod(name, types).invoke(desk, numbers);
    }

    static void example(String page, Map<String, Integer> constants) throws Exception {
        RoomsDesk desk = new RoomsDesk();
        Matcher line = EXAMPLE.matcher(page);
        int many = 0;
        while (line.find()) {
            many++;
            Integer constant = constants.get(line.group(3));
            int due = constant != null ? constant : Integer.parseInt(line.group(3));
            int got = answer(desk, line.group(1), arguments(line.group(2)));
            must(got == due, line.group() + " (it answered " + got + ")");
        }
        must(many == page.lines().filter(l -> l.startsWith("desk.")).count() && many > 0, "each line of the example is tried");
    }

    public static void main(String[] args) throws Exception {
        String page = Files.readString(Path.of("README.md"));
        calls(page);
        constantsAreNamed(page, constants());
        example(page, constants());
        System.out.println(wrong == 0 ? "README.md tells what is so" : wrong + " things are not as README.md tells");
        if (wrong != 0) {
            System.exit(1);
        }
    }
}
