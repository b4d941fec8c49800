import java.lang.reflect.Field;
import java.lang.reflect.Method;
import java.lang.reflect.Modifier;
import java.util.Set;
import java.util.TreeSet;

/** The document's face and rules 1 and 5 of the language: what the class shows, and no static state. */
final class FaceTest {
    private static final Set<String> METHODS = Set.of(
        "boolean type(char)", "boolean word(int)", "void insert(int,char)", "void remove(int,int)", "int length()",
        "char letter(int)", "int tokens()", "int token(int,int)", "int faults()", "int fault(int)",
        "int reference(int,int)", "int rename(int,long)", "int inline(int)", "int run(int)", "int output(int)");

    public static void main(String[] args) {
        Check.is("NONE", ProgramDesk.NONE, -1);
        Check.is("final", Modifier.isFinal(ProgramDesk.class.getModifiers()), true);
        Check.is("public constructors", ProgramDesk.class.getConstructors().length, 1);
        methods();
        fields();
        Check.finish();
    }

    private static void methods() {
        Set<String> shown = new TreeSet<>();
        Set<String> names = new TreeSet<>();
        for (Method method : ProgramDesk.class.getDeclaredMethods()) {
            if (!Modifier.isPrivate(method.getModifiers())) {
                shown.add(written(method));
                Check.is("the name is borne once: " + method.getName(), names.add(method.getName()), true);
            }
        }
        Check.is("methods", shown.toString(), new TreeSet<>(METHODS).toString());
        for (Class<?> inside : ProgramDesk.class.getDeclaredClasses()) {
            Check.is("static: " + inside, Modifier.isStatic(inside.getModifiers()), true);
            for (Method method : inside.getDeclaredMethods()) {
                Check.is("a name of the face inside: " + method, names.contains(method.getName()), false);
            }
        }
        for (Method method : ProgramDesk.class.getDeclaredMethods()) {
            if (Modifier.isPrivate(method.getModifiers())) {
                Check.is("a private one with a name of the face: " + method, names.contains(method.getName()), false);
            }
        }
    }

    private static String written(Method method) {
        StringBuilder text = new StringBuilder(method.getReturnType().getName()).append(' ').append(method.getName()).append('(');
        for (int p = 0; p < method.getParameterCount(); p++) {
            text.append(p == 0 ? "" : ",").append(method.getParameterTypes()[p].getName());
        }
        return text.append(')').toString();
    }

    private static void fields() {
        for (Field field : ProgramDesk.class.getDeclaredFields()) {
            boolean shown = !Modifier.isPrivate(field.getModifiers());
            Check.is("shown: " + field, shown, field.getName().equals("NONE"));
            Check.is("static and not final: " + field, isLoose(field), false);
        }
        for (Class<?> inside : ProgramDesk.class.getDeclaredClasses()) {
            for (Field field : inside.getDeclaredFields()) {
                Check.is("static and not final: " + field, isLoose(field), false);
            }
        }
    }

    private static boolean isLoose(Field field) {
        return Modifier.isStatic(field.getModifiers()) && !Modifier.isFinal(field.getModifiers());
    }
}
