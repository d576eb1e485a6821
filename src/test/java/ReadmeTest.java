import java.io.IOException;
import java.lang.reflect.InvocationTargetException;
import java.lang.reflect.Method;
import java.nio.file.Files;
import java.nio.file.Path;
import java.util.Set;
import java.util.TreeSet;
import java.util.regex.Matcher;
import java.util.regex.Pattern;

/** Makes the calls that README.md shows, one after the other: each answers what stands beside it. */
public final class ReadmeTest {
    private static final Pattern MADE =
            Pattern.compile("ParkWays ways = new ParkWays\\((\\d+), (\\d+), (\\d+)\\);\\s+//.*");
    private static final Pattern CALL = Pattern.compile("ways\\.(\\w+)\\(([^()]*)\\);\\s+// ([^\\s:]+)(: .*)?");

    private final Check check = new Check();
    private final Set<String> shown = new TreeSet<>();
    private ParkWays ways;

    public static void main(String[] args) throws IOException {
        ReadmeTest test = new ReadmeTest();
        test.check.begin("README.md");
        boolean inJava = false;
        for (String line : Files.readAllLines(Path.of("README.md"))) {
            if (line.startsWith("```")) {
                inJava = line.equals("```java");
            } else if (inJava && !line.isBlank()) {
                test.line(line);
            }
        }
        test.dueEveryCallShown();
        test.check.end("ReadmeTest");
    }

    private void line(String line) {
        Matcher made = MADE.matcher(line);
        Matcher call = CALL.matcher(line);
        if (made.matches()) {
            ways = new ParkWays(Integer.parseInt(made.group(1)), Integer.parseInt(made.group(2)),
                    Integer.parseInt(made.group(3)));
        } else if (call.matches() && ways != null) {
            String told = call.group(1) + "(" + call.group(2) + ")";
            check.dueText(told, answer(call.group(1), call.group(2)), call.group(3));
        } else {
            check.tell("this is no call with its answer: " + line);
        }
    }

    private String answer(String name, String arguments) {
        Method method = methodOf(name);
        if (method == null) {
            return "(there is no such call)";
        }
        shown.add(name);
        String[] told = arguments.isEmpty() ? new String[0] : arguments.split(", ");
        Class<?>[] types = method.getParameterTypes();
        if (told.length != types.length) {
            return "(it has another number of arguments)";
        }
        Object[] values = new Object[told.length];
        for (int i = 0; i < told.length; i++) {
            values[i] = value(types[i], told[i]);
        }
        return made(method, values);
    }

    private String made(Method method, Object[] values) {
        try {
            return String.valueOf(method.invoke(ways, values));
        } catch (InvocationTargetException thrown) {
            return thrown.getCause().getClass().getSimpleName();
        } catch (IllegalAccessException thrown) {
            return "(it is not public)";
        }
    }

    private static Method methodOf(String name) {
        for (Method method : ParkWays.class.getMethods()) {
            if (method.getName().equals(name)) {
                return method;
            }
        }
        return null;
    }

    private static Object value(Class<?> type, String told) {
        if (type == boolean.class) {
            return Boolean.valueOf(told);
        }
        if (type == double.class) {
            return Double.valueOf(told);
        }
        if (type == long.class) {
            return Long.valueOf(told.endsWith("L") ? told.substring(0, told.length() - 1) : told);
        }
        return Integer.valueOf(told);
    }

    private void dueEveryCallShown() {
        for (Method method : ParkWays.class.getMethods()) {
            if (method.getDeclaringClass() == ParkWays.class) {
                check.due("that " + method.getName() + "() is shown", shown.contains(method.getName()), true);
            }
        }
    }
}
