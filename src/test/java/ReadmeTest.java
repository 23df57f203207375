import java.io.IOException;
import java.lang.reflect.InvocationTargetException;
import java.lang.reflect.Method;
import java.nio.file.Files;
import java.nio.file.Path;
import java.util.HashMap;
import java.util.Map;
import java.util.regex.Matcher;
import java.util.regex.Pattern;

/** What README.md says: its calls answer what stands beside them, and every call of the face is told of. */
public final class ReadmeTest {
    private static final Pattern CALL =
        Pattern.compile("(?:int (\\w+) = )?x\\.(\\w+)\\(([^)]*)\\);\\s*// ([^:]+): .+");

    private static final Due due = new Due("ReadmeTest");
    private static final Map<String, Long> known = new HashMap<>();
    private static StepRows x;
    private static int calls;

    public static void main(String[] args) throws IOException, ReflectiveOperationException {
        boolean code = false;
        for (String line : Files.readAllLines(Path.of("README.md"))) {
            if (line.startsWith("```")) {
                code = line.equals("```java");
            } else if (code) {
                doLine(line.trim());
            }
        }
        due.is("calls were seen", calls > 30, true);
        everyCallIsToldOf(Files.readString(Path.of("README.md")));
        due.end();
    }

    private static void doLine(String line) throws ReflectiveOperationException {
        if (line.equals("StepRows x = new StepRows();")) {
            x = new StepRows();
            known.clear();
            return;
        }
        Matcher call = CALL.matcher(line);
        boolean is = call.matches();
        due.is("a call with its answer: " + line, is, true);
        if (is) {
            calls++;
            String got = ask(call.group(2), call.group(3));
            due.is(line + " answered " + got + ", that it is as written", got.equals(call.group(4)), true);
            if (call.group(1) != null) {
                known.put(call.group(1), Long.parseLong(got));
            }
        }
    }

    private static String ask(String name, String written) throws ReflectiveOperationException {
        Method method = methodOf(name);
        String[] parts = written.isEmpty() ? new String[0] : written.split(", ");
        Object[] arguments = new Object[parts.length];
        for (int k = 0; k < parts.length; k++) {
            long number = known.containsKey(parts[k]) ? known.get(parts[k]) : Long.parseLong(parts[k]);
            if (method.getParameterTypes()[k] == long.class) {
                arguments[k] = number;
            } else {
                arguments[k] = Math.toIntExact(number);
            }
        }
        try {
            return String.valueOf(method.invoke(x, arguments));
        } catch (InvocationTargetException e) {
            return e.getCause().getClass().getSimpleName();
        }
    }

    private static Method methodOf(String name) {
        for (Method method : StepRows.class.getDeclaredMethods()) {
            if (method.getName().equals(name)) {
                return method;
            }
        }
        throw new IllegalStateException("README.md calls what is not there: " + name);
    }

    private static void everyCallIsToldOf(String text) {
        int seen = 0;
        for (Method method : StepRows.class.getMethods()) {
            if (method.getDeclaringClass() == StepRows.class) {
                seen++;
                due.is("README.md tells what " + method.getName() + " answers",
                    text.contains("\n| `" + method.getName() + "("), true);
                due.is("README.md calls " + method.getName(), text.contains("x." + method.getName() + "("), true);
            }
        }
        due.is("calls of the face", seen, 16);
        due.is("README.md says how to run the tests", text.contains("\n    .ci/run\n"), true);
    }
}
