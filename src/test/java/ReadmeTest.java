import java.io.IOException;
import java.lang.reflect.InvocationTargetException;
import java.lang.reflect.Method;
import java.lang.reflect.Modifier;
import java.nio.file.Files;
import java.nio.file.Path;
import java.util.regex.Matcher;
import java.util.regex.Pattern;

/** README.md: its example answers what it says there, and it tells of every method and exception. */
final class ReadmeTest {
    private static final Pattern TYPED = Pattern.compile("for \\(char c : \"([^\"]*)\"\\.toCharArray\\(\\)\\) \\{");
    private static final Pattern CALL = Pattern.compile("desk\\.(\\w+)\\(([^)]*)\\); +// (\\w+)(?:: (.*))?");

    private static ProgramDesk desk = new ProgramDesk();
    private static int asked = 0;

    public static void main(String[] args) throws IOException, ReflectiveOperationException {
        String readme = Files.readString(Path.of("README.md"));
        methods(readme);
        exceptions(readme);
        tests(readme);
        example(readme);
        Check.finish();
    }

    private static void methods(String readme) {
        for (Method method : ProgramDesk.class.getDeclaredMethods()) {
            if (Modifier.isPublic(method.getModifiers())) {
                Check.is("a row of its own: " + method.getName(), readme.contains("\n| `" + method.getName() + "("), true);
            }
        }
        Check.is("how an object is made", readme.contains("new ProgramDesk()"), true);
        Check.is("how long it is used", readme.contains("512 calls"), true);
    }

    /** Of each exception a row, which names the methods that declare it. */
    private static void exceptions(String readme) {
        for (Method method : ProgramDesk.class.getDeclaredMethods()) {
            for (Class<?> exception : method.getExceptionTypes()) {
                Matcher row = Pattern.compile("(?m)^\\| `" + exception.getSimpleName() + "` \\|.*$").matcher(readme);
                boolean told = row.find() && row.group().contains("`" + method.getName() + "`");
                Check.is(exception.getSimpleName() + " of " + method.getName(), told, true);
            }
        }
    }

    private static void tests(String readme) {
        Check.is("how the tests are run", readme.contains("\n.ci/run\n"), true);
        String[] own = Path.of("src/test/java").toFile().list();
        Check.is("tests were found", own != null && own.length > 0, true);
        for (String file : own == null ? new String[0] : own) {
            String name = file.replace(".java", "");
            boolean told = name.endsWith("EdgeTest") ? readme.contains("`*EdgeTest`") : readme.contains(name);
            Check.is("what " + name + " is for", told, true);
        }
    }

    private static void example(String readme) throws ReflectiveOperationException {
        int begin = readme.indexOf("```java\n");
        for (String line : readme.substring(begin, readme.indexOf("\n```\n", begin)).split("\n")) {
            Matcher typed = TYPED.matcher(line);
            Matcher call = CALL.matcher(line);
            if (typed.matches()) {
                typed.group(1).chars().forEach(c -> desk.type((char) c));
            } else if (call.matches()) {
                Check.is(line, answer(call.group(1), call.group(2)), call.group(3));
                asked++;
            } else {
                boolean known = line.matches("```java|ProgramDesk desk = new ProgramDesk\\(\\);|    desk\\.type\\(c\\);|\\}");
                Check.is("a line that is known: " + line, known, true);
            }
            if (line.contains("desk.inline(16)")) {
                Check.is("the text that is told", Check.text(desk), call.group(4));
            }
        }
        Check.is("calls in the example", asked, 20);
    }

    private static String answer(String name, String arguments) throws ReflectiveOperationException {
        for (Method method : ProgramDesk.class.getDeclaredMethods()) {
            if (method.getName().equals(name)) {
                String[] written = arguments.isEmpty() ? new String[0] : arguments.split(", ");
                Object[] values = new Object[written.length];
                for (int p = 0; p < written.length; p++) {
                    values[p] = value(written[p], method.getParameterTypes()[p]);
                }
                return called(method, values);
            }
        }
        return "no such method";
    }

    private static Object value(String written, Class<?> type) {
        if (type == char.class) {
            return written.charAt(1);
        }
        return type == long.class ? (Object) Long.valueOf(written.replace("L", "")) : Integer.valueOf(written);
    }

    private static String called(Method method, Object[] values) throws ReflectiveOperationException {
        try {
            Object answer = method.invoke(desk, values);
            return answer == null ? "nothing" : answer.toString();
        } catch (InvocationTargetException e) {
            return e.getCause().getClass().getSimpleName();
        }
    }
}
