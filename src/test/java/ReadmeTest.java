import java.io.IOException;
import java.lang.reflect.InvocationTargetException;
import java.lang.reflect.Method;
import java.lang.reflect.Modifier;
import java.nio.file.Files;
import java.nio.file.Path;
import java.util.List;
import java.util.Set;
import java.util.TreeSet;
import java.util.regex.Matcher;
import java.util.regex.Pattern;

/** The calls of README.md are made as they stand there, and answer what stands behind them. */
public final class ReadmeTest {
    private static final Pattern CALL = Pattern.compile("x\\.(\\w+)\\((.*)\\);\\s*// (.*)");
    private static final Pattern ANSWER = Pattern.compile("(\\d+|true|false|throws \\w+): .*");
    private static final String NO_ANSWER = "(no answer) ";

    private static SharedWire x = null;
    private static final Set<String> called = new TreeSet<>();

    public static void main(String[] args) throws IOException {
        Due.sentence("README.md");
        boolean isCode = false;
        for (String line : Files.readAllLines(Path.of("README.md"))) {
            if (line.startsWith("```")) {
                isCode = line.equals("```java");
            } else if (isCode) {
                follow(line);
            }
        }
        Due.is("the calls shown", called.toString(), face().toString());
        Due.end();
    }

    private static void follow(String line) {
        if (line.startsWith("SharedWire x = new SharedWire();")) {
            x = new SharedWire();
            return;
        }
        Matcher call = CALL.matcher(line);
        Due.isTrue("read as a call: " + line, call.matches());
        String name = call.group(1);
        called.add(name);
        Due.is(line, answer(name, call.group(2)), due(call.group(3)));
    }

    private static String due(String comment) {
        Matcher answer = ANSWER.matcher(comment);
        if (answer.matches()) {
            return answer.group(1);
        }
        return comment.startsWith(NO_ANSWER) ? "null" : "an answer before a colon";
    }

    private static String answer(String name, String arguments) {
        List<String> texts = arguments.isEmpty() ? List.of() : List.of(arguments.split(", "));
        Method method = methodOf(name);
        Class<?>[] types = method.getParameterTypes();
        Object[] values = new Object[types.length];
        for (int i = 0; i < types.length; i++) {
            values[i] = value(types[i], texts.get(i));
        }
        try {
            return "" + method.invoke(x, values);
        } catch (InvocationTargetException e) {
            return "throws " + e.getCause().getClass().getSimpleName();
        } catch (IllegalAccessException e) {
            return "no call";
        }
    }

    private static Object value(Class<?> type, String text) {
        if (type == boolean.class) {
            return Boolean.valueOf(text);
        }
        if (type == int.class) {
            return Integer.decode(text);
        }
        return Long.decode(text);
    }

    private static Method methodOf(String name) {
        for (Method method : SharedWire.class.getDeclaredMethods()) {
            if (method.getName().equals(name) && Modifier.isPublic(method.getModifiers())) {
                return method;
            }
        }
        throw new IllegalStateException("no call is named " + name);
    }

    private static Set<String> face() {
        Set<String> names = new TreeSet<>();
        for (Method method : SharedWire.class.getDeclaredMethods()) {
            if (Modifier.isPublic(method.getModifiers())) {
                names.add(method.getName());
            }
        }
        return names;
    }
}
