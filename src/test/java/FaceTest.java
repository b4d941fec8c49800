import java.io.IOException;
import java.lang.reflect.Field;
import java.lang.reflect.Method;
import java.lang.reflect.Modifier;
import java.nio.file.Files;
import java.nio.file.Path;
import java.util.Set;
import java.util.TreeSet;
import java.util.regex.Matcher;
import java.util.regex.Pattern;

/** The document's face and rules 1 and 5 of the language: what the class shows, and no static state. */
final class FaceTest {
    private static final Set<String> METHODS = Set.of(
        "boolean type(char)", "boolean word(int)", "void insert(int,char)", "void remove(int,int)", "int length()",
        "char letter(int)", "int tokens()", "int token(int,int)", "int faults()", "int fault(int)",
        "int reference(int,int)", "int rename(int,long)", "int inline(int)", "int run(int)", "int output(int)");

    public static void main(String[] args) throws IOException {
        Check.is("NONE", ProgramDesk.NONE, -1);
        Check.is("final", Modifier.isFinal(ProgramDesk.class.getModifiers()), true);
        Check.is("public constructors", ProgramDesk.class.getConstructors().length, 1);
        methods();
        fields();
        document();
        Check.finish();
    }

    private static void methods() {
        Set<String> shown = new TreeSet<>();
        Set<String> names = new TreeSet<>();
        for (Method method : ProgramDesk.class.getDeclaredMethods()) {
            if (!Modifier.isPrivate(method.getModifiers())) {
                shown.add(written(method));
                Check.is("the name is borne once: " + method.getName(), names.add(method.getName()), true);
            }
        }
        Check.is("methods", shown.toString(), new TreeSet<>(METHODS).toString());
        for (Class<?> inside : ProgramDesk.class.getDeclaredClasses()) {
            Check.is("static: " + inside, Modifier.isStatic(inside.getModifiers()), true);
            for (Method method : inside.getDeclaredMethods()) {
                Check.is("a name of the face inside: " + method, names.contains(method.getName()), false);
            }
        }
        for (Method method : ProgramDesk.class.getDeclaredMethods()) {
            if (Modifier.isPrivate(method.getModifiers())) {
                Check.is("a private one with a name of the face: " + method, names.contains(method.getName()), false);
            }
        }
    }

    private static String written(Method method) {
        StringBuilder text = new StringBuilder(method.getReturnType().getName()).append(' ').append(method.getName()).append('(');
        for (int p = 0; p < method.getParameterCount(); p++) {
            text.append(p == 0 ? "" : ",").append(method.getParameterTypes()[p].getName());
        }
        return text.append(')').toString();
    }

    private static void fields() {
        for (Field field : ProgramDesk.class.getDeclaredFields()) {
            boolean shown = !Modifier.isPrivate(field.getModifiers());
            Check.is("shown: " + field, shown, field.getName().equals("NONE"));
            Check.is("static and not final: " + field, isLoose(field), false);
        }
        for (Class<?> inside : ProgramDesk.class.getDeclaredClasses()) {
            for (Field field : inside.getDeclaredFields()) {
                Check.is("static and not final: " + field, isLoose(field), false);
            }
        }
    }

    private static boolean isLoose(Field field) {
        return Modifier.isStatic(field.getModifiers()) && !Modifier.isFinal(field.getModifiers());
    }

    /** The exceptions, too, stand behind each method as in the document's face. */
    private static void document() throws IOException {
        String text = Files.readString(Path.of("../shared/DOC.md"));
        String face = text.substring(text.indexOf("```java"), text.indexOf("## Terms"));
        Set<String> due = new TreeSet<>();
        Matcher line = Pattern.compile("public (\\w+ \\w+)\\(([^)]*)\\)(?: throws ([^;]*))?;").matcher(face);
        while (line.find()) {
            String parameters = line.group(2).replaceAll(" \\w+(, )?", ",").replaceAll(",$", "");
            due.add(line.group(1) + "(" + parameters + ") " + (line.group(3) == null ? "" : line.group(3)));
        }
        Set<String> shown = new TreeSet<>();
        for (Method method : ProgramDesk.class.getDeclaredMethods()) {
            if (Modifier.isPublic(method.getModifiers())) {
                StringBuilder thrown = new StringBuilder();
                for (Class<?> exception : method.getExceptionTypes()) {
                    thrown.append(thrown.length() == 0 ? "" : ", ").append(exception.getSimpleName());
                }
                shown.add(written(method) + " " + thrown);
            }
        }
        Check.is("the face of the document", shown.toString(), due.toString());
        Check.is("its methods", due.size(), METHODS.size());
    }
}
