import java.lang.reflect.Constructor;
import java.lang.reflect.Field;
import java.lang.reflect.Method;
import java.lang.reflect.Modifier;
import java.nio.file.Files;
import java.nio.file.Path;
import java.util.Set;
import java.util.TreeSet;
import java.util.regex.Matcher;
import java.util.regex.Pattern;

/** The rules of LANGUAGE.md that can be seen from the program's words and from its classes. */
public final class LanguageTest {
    static final Path PROGRAM = Path.of("src/main/java/RoomsDesk.java");
    static final String[] FORBIDDEN = {"throw", "throws", "try", "catch", "finally", "synchronized", "assert", "import",
        "package", "volatile", "transient", "native", "equals", "hashCode", "toString", "System", "Object"};
    static final Set<String> FACE = new TreeSet<>(Set.of("firm", "asset", "charge", "brings", "claim", "isOf", "amend",
            "trade", "guard", "dispute", "told", "known", "holder", "days", "wind", "gets", "ends", "cash", "row", "tell",
            "check", "put", "quarrel", "terms", "worth", "worse", "vote", "votes", "record", "rule", "feed", "trim", "law",
            "says", "binds", "passes", "name", "buy", "bought", "part", "parted", "keep", "back", "sheet", "mark", "copy",
            "count"));
    static int wrong = 0;

    static void must(boolean is, String what) {
        if (!is) {
            wrong++;
            System.out.println("not so: " + what);
        }
    }

    static void words() throws Exception {
        String text = Files.readString(PROGRAM);
        String code = text.replaceAll("(?s)/\\*.*?\\*/", " ").replaceAll("//[^\n]*", " ");
        for (String word : FORBIDDEN) {
            must(!Pattern.compile("\\b" + word + "\\b").matcher(code).find(), "no " + word);
        }
        must(!code.contains("->") && !code.contains("::"), "no lambda, no method reference");
        must(text.chars().allMatch(c -> c < 128), "signs below 128");
        Matcher library = Pattern.compile("\\b(Math|Integer|Long|Arrays)\\.(\\w+)\\(").matcher(code);
        while (library.find()) {
            must(Set.of("min", "max", "abs", "bitCount").contains(library.group(2)), library.group() + " is asked of the library");
        }
    }

    static void face() {
        Set<String> found = new TreeSet<>();
        for (Method method : RoomsDesk.class.getDeclaredMethods()) {
            int is = method.getModifiers();
            if (Modifier.isPublic(is)) {
                found.add(method.getName());
                must(FACE.contains(method.getName()) && method.getReturnType() == int.class, method + " is of the face");
            } else {
                must(Modifier.isPrivate(is) || method.isSynthetic(), method + " is private");
                must(!FACE.contains(method.getName()), method + " bears a name of its own");
            }
        }
        must(found.equals(FACE), "the whole face stands");
        Constructor<?>[] made = RoomsDesk.class.getDeclaredConstructors();
        must(made.length == 1 && made[0].getParameterCount() == 0, "one constructor");
        must(Modifier.isFinal(RoomsDesk.class.getModifiers()), "the class is final");
    }

    static void inside(Class<?> type) {
        int fields = 0;
        for (Field field : type.getDeclaredFields()) {
            int is = field.getModifiers();
            fields += Modifier.isStatic(is) ? 0 : 1;
            must(!Modifier.isStatic(is) || Modifier.isFinal(is), field + " is final");
            must(type != RoomsDesk.class || Modifier.isPrivate(is) || Modifier.isPublic(is) && Modifier.isStatic(is),
                    field + " is private or a constant");
        }
        must(fields <= 20, type + " has at most twenty fields");
        for (Method method : type.getDeclaredMethods()) {
            must(method.getParameterCount() <= 7, method + " takes at most seven");
            must(type == RoomsDesk.class || !FACE.contains(method.getName()), method + " bears a name of its own");
        }
    }

    public static void main(String[] args) throws Exception {
        words();
        face();
        Class<?>[] classes = RoomsDesk.class.getDeclaredClasses();
        must(classes.length <= 12, "at most twelve classes");
        inside(RoomsDesk.class);
        for (Class<?> type : classes) {
            must(Modifier.isStatic(type.getModifiers()) && Modifier.isPrivate(type.getModifiers()), type + " is private, static");
            inside(type);
        }
        System.out.println(wrong == 0 ? "the rules are kept" : wrong + " rules are not kept");
        if (wrong != 0) {
            System.exit(1);
        }
    }
}
