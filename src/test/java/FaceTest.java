import java.lang.reflect.Field;
import java.lang.reflect.Method;
import java.lang.reflect.Modifier;
import java.util.Arrays;
import java.util.Set;
import java.util.TreeSet;

/** The public face: all of the document's members, and no others. */
public final class FaceTest {
    private static final String[] METHODS = {
        "int leaf(int,long)",
        "int node(int,int,int,int)",
        "int make(int)",
        "boolean signal(int,long)",
        "int start(int)",
        "int tick(int)",
        "long output(int)",
        "int step(int)",
        "int alarm(int,int)",
        "int save()",
        "boolean back(int)",
        "int swap(int)",
        "long value(int)",
        "boolean shared(int,int)",
        "int table(int) IndexOutOfBoundsException",
        "int told(int)",
    };

    public static void main(String[] args) {
        Due due = new Due("FaceTest");
        Class<?> face = StepRows.class;
        due.is("public and final", face.getModifiers(), Modifier.PUBLIC | Modifier.FINAL);
        due.is("NONE", StepRows.NONE, -1);
        due.is("FULL", StepRows.FULL, -2);
        due.is("constructors", face.getDeclaredConstructors().length, 1);
        due.is("public constructor", face.getDeclaredConstructors()[0].getModifiers(), Modifier.PUBLIC);
        due.is("its parameters", face.getDeclaredConstructors()[0].getParameterCount(), 0);
        methods(due, face);
        fields(due, face);
        for (Class<?> inside : face.getDeclaredClasses()) {
            int m = inside.getModifiers();
            due.is(inside + " is static", Modifier.isStatic(m), true);
            due.is(inside + " is not public", Modifier.isPublic(m) || Modifier.isProtected(m), false);
        }
        due.end();
    }

    private static void methods(Due due, Class<?> face) {
        Set<String> seen = new TreeSet<>();
        Set<String> names = new TreeSet<>();
        for (Method method : face.getDeclaredMethods()) {
            if (!Modifier.isPrivate(method.getModifiers())) {
                due.is(method + " is public", method.getModifiers(), Modifier.PUBLIC);
                seen.add(text(method));
                names.add(method.getName());
            }
        }
        due.is("the methods " + seen, seen.equals(new TreeSet<>(Arrays.asList(METHODS))), true);
        for (Method method : face.getDeclaredMethods()) {
            boolean both = Modifier.isPrivate(method.getModifiers()) && names.contains(method.getName());
            due.is(method + " bears a public name", both, false);
        }
    }

    private static void fields(Due due, Class<?> face) {
        Set<String> seen = new TreeSet<>();
        for (Field field : face.getDeclaredFields()) {
            int m = field.getModifiers();
            if (!Modifier.isPrivate(m)) {
                due.is(field + " is a constant", m, Modifier.PUBLIC | Modifier.STATIC | Modifier.FINAL);
                seen.add(field.getType() + " " + field.getName());
            }
            due.is(field + " is static and changes", Modifier.isStatic(m) && !Modifier.isFinal(m), false);
        }
        due.is("the constants " + seen, seen.equals(new TreeSet<>(Arrays.asList("int NONE", "int FULL"))), true);
    }

    private static String text(Method method) {
        StringBuilder text = new StringBuilder();
        text.append(method.getReturnType()).append(' ').append(method.getName()).append('(');
        for (int k = 0; k < method.getParameterCount(); k++) {
            text.append(k == 0 ? "" : ",").append(method.getParameterTypes()[k]);
        }
        text.append(')');
        for (Class<?> thrown : method.getExceptionTypes()) {
            text.append(' ').append(thrown.getSimpleName());
        }
        return text.toString();
    }
}
