import java.io.IOException;
import java.lang.reflect.Array;
import java.lang.reflect.Field;
import java.lang.reflect.Method;
import java.lang.reflect.Modifier;
import java.nio.file.Files;
import java.nio.file.Path;
import java.util.ArrayList;
import java.util.IdentityHashMap;
import java.util.List;
import java.util.Map;
import java.util.Set;
import java.util.regex.Matcher;
import java.util.regex.Pattern;

/** The rules of ../shared/LANGUAGE.md that a program can see to, and the room that a desk takes. */
final class LanguageTest {
    private static final Set<Class<?>> VALUES = Set.of(int.class, long.class, short.class, byte.class, char.class,
        boolean.class, double.class, float.class, String.class);
    private static final Set<Class<?>> CONSTANTS = Set.of(int.class, long.class, boolean.class, char.class, String.class,
        int[].class, long[].class, char[].class, byte[].class);
    private static final String[] FORBIDDEN = {"->", "::", "\\bpackage\\b", "\\bfinally\\b", "\\bsynchronized\\b", "\\bassert\\b",
        "\\bThread\\b", "\\bRandom\\b", "Math\\.random", "\\bSystem\\b", "\\bhashCode\\b", "\\btoString\\b", "\\bgetMessage\\b",
        "Exact\\b", "static \\{", "\\binstanceof\\b", "\\bObject\\b", "\\bvar\\b", "\\bjava\\.(?!util\\.NoSuchElementException;)"};

    private static String source = "";

    public static void main(String[] args) throws IOException {
        source = withoutComments(Files.readString(Path.of("src/main/java/ProgramDesk.java")));
        words();
        exceptions();
        classes();
        methodsAreShort();
        room();
        noCallMakesAnObject();
        Check.finish();
    }

    private static String withoutComments(String text) {
        return text.replaceAll("(?s)/\\*.*?\\*/", "").replaceAll("//[^\n]*", "");
    }

    private static void words() {
        for (String word : FORBIDDEN) {
            Check.is("in the source: " + word, Pattern.compile(word).matcher(source).find(), false);
        }
        Matcher imports = Pattern.compile("import ([^;]+);").matcher(source);
        while (imports.find()) {
            Check.is("imported", imports.group(1), "java.util.NoSuchElementException");
        }
    }

    private static void exceptions() {
        Matcher thrown = Pattern.compile("throw new (\\w+)\\(([^)]*)\\)").matcher(source);
        Set<String> known = Set.of("IllegalStateException", "IllegalArgumentException", "IndexOutOfBoundsException",
            "UnsupportedOperationException", "NoSuchElementException");
        while (thrown.find()) {
            Check.is("thrown: " + thrown.group(1), known.contains(thrown.group(1)), true);
            Check.is("what is said with it", thrown.group(2), "");
        }
    }

    private static List<Class<?>> all() {
        List<Class<?>> all = new ArrayList<>(List.of(ProgramDesk.class.getDeclaredClasses()));
        all.add(ProgramDesk.class);
        return all;
    }

    private static void classes() {
        List<Class<?>> all = all();
        Check.is("at most twelve classes", all.size() <= 12, true);
        for (Class<?> one : all) {
            int fields = 0;
            for (Field field : one.getDeclaredFields()) {
                if (Modifier.isStatic(field.getModifiers())) {
                    Check.is("a constant: " + field, CONSTANTS.contains(field.getType()), true);
                    Check.is("final: " + field, Modifier.isFinal(field.getModifiers()), true);
                } else {
                    fields++;
                    Check.is("a type that is allowed: " + field, isAllowed(field.getType(), all), true);
                }
            }
            Check.is("at most twenty fields in " + one, fields <= 20, true);
            for (Method method : one.getDeclaredMethods()) {
                Check.is("at most seven parameters: " + method, method.getParameterCount() <= 7, true);
            }
        }
    }

    private static boolean isAllowed(Class<?> type, List<Class<?>> own) {
        Class<?> inner = type.isArray() ? type.getComponentType() : type;
        return VALUES.contains(inner) || own.contains(inner);
    }

    private static void methodsAreShort() {
        Matcher method = Pattern.compile("(?m)^( {4}| {8})(?=\\w)[\\w<>\\[\\] ]+\\([^)]*\\)[\\w, ]* \\{$").matcher(source);
        int methods = 0;
        while (method.find()) {
            int end = source.indexOf("\n" + method.group(1) + "}", method.end());
            long lines = source.substring(method.start(), end + 1).lines().count() + 1;
            methods++;
            Check.is("at most sixty lines: " + method.group().trim(), lines <= 60, true);
        }
        Check.is("methods were found", methods > 50, true);
    }

    /** Objects and arrays that can be reached, and their fields and elements. */
    private static long[] counted(ProgramDesk desk) throws IllegalAccessException {
        Map<Object, Boolean> seen = new IdentityHashMap<>();
        List<Object> found = new ArrayList<>();
        found.add(desk);
        seen.put(desk, true);
        long inside = 0;
        for (int n = 0; n < found.size(); n++) {
            Object one = found.get(n);
            if (one.getClass().isArray()) {
                inside += Array.getLength(one);
                continue;
            }
            for (Field field : one.getClass().getDeclaredFields()) {
                if (Modifier.isStatic(field.getModifiers())) {
                    continue;
                }
                inside++;
                field.setAccessible(true);
                Object held = field.get(one);
                if (!field.getType().isPrimitive() && held != null && seen.put(held, true) == null) {
                    found.add(held);
                }
            }
        }
        return new long[] {found.size(), inside};
    }

    private static void room() {
        try {
            long[] made = counted(new ProgramDesk());
            Check.is("at most 100 objects and arrays in a desk, now " + made[0], made[0] <= 100, true);
            Check.is("at most 12,000 fields and elements in a desk, now " + made[1], made[1] <= 12000, true);
            ProgramDesk used = Check.desk("fn main(n){let a=n;while n{print a;n=n-1;}return main(n);}");
            used.run(40);
            used.rename(15, Check.pack("b"));
            used.insert(0, ' ');
            used.run(2);
            long[] then = counted(used);
            Check.is("objects of a used desk", then[0], made[0]);
            Check.is("fields and elements of a used desk", then[1], made[1]);
        } catch (IllegalAccessException e) {
            Check.is("the fields can be read", false, true);
        }
    }

    /** But for exceptions: everything is made in constructors and initialisers of fields. */
    private static void noCallMakesAnObject() {
        Matcher made = Pattern.compile("(?m)^.*\\bnew \\w.*$").matcher(source);
        while (made.find()) {
            String line = made.group().trim();
            boolean field = line.matches("(private )?(final )?[\\w\\[\\]]+ \\w+ = new .*;");
            Check.is("made: " + line, field || line.startsWith("throw new "), true);
        }
    }
}
