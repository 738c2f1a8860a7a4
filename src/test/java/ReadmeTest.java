import java.io.IOException;
import java.lang.reflect.InvocationTargetException;
import java.lang.reflect.Method;
import java.nio.file.Files;
import java.nio.file.Path;
import java.util.regex.Matcher;
import java.util.regex.Pattern;

/** The calls in the examples of README.md answer what the comments behind them begin with. */
public final class ReadmeTest {
    private static final String MAKES = "LookaheadMill mill = new LookaheadMill();";
    private static final Pattern CALL = Pattern.compile("mill\\.(\\w+)\\((.*?)\\); *// ([^:]+)(:.*)?");

    private LookaheadMill mill = null;
    private int calls = 0;

    /** It is run where README.md is, as .ci/run does. */
    public static void main(String[] args) throws IOException, ReflectiveOperationException {
        ReadmeTest test = new ReadmeTest();
        boolean inside = false;
        for (String line : Files.readAllLines(Path.of("README.md"))) {
            if (line.startsWith("```")) {
                inside = line.equals("```java");
            } else if (inside && !line.isBlank()) {
                test.follow(line);
            }
        }
        Check.same("the examples have calls", test.calls > 0 ? 1 : 0, 1);
        Check.end();
    }

    private void follow(String line) throws ReflectiveOperationException {
        if (line.equals(MAKES)) {
            mill = new LookaheadMill();
            return;
        }
        Matcher call = CALL.matcher(line);
        Check.same("has an answer: " + line, call.matches() ? 1 : 0, 1);
        if (call.matches()) {
            Method method = methodOf(call.group(1));
            String got = answer(method, call.group(2));
            String due = method.getReturnType() == void.class ? "null" : valueOf(call.group(3));
            Check.same(line, got, due);
            calls++;
        }
    }

    private String answer(Method method, String written) throws IllegalAccessException {
        Class<?>[] types = method.getParameterTypes();
        String[] parts = written.isEmpty() ? new String[0] : written.split(", ");
        Object[] arguments = new Object[parts.length];
        for (int i = 0; i < parts.length; i++) {
            arguments[i] = argument(parts[i], types[i]);
        }
        try {
            return String.valueOf(method.invoke(mill, arguments));
        } catch (InvocationTargetException e) {
            return e.getCause().getClass().getSimpleName();
        }
    }

    private static Object argument(String written, Class<?> type) {
        if (type == char.class) {
            return written.charAt(1);
        }
        if (type == long.class) {
            return Long.decode(written.substring(0, written.length() - 1));
        }
        return Integer.valueOf(written);
    }

    /** A number, a letter, a constant, or a sum of these; what is none of them names an exception. */
    private static String valueOf(String written) throws IllegalAccessException {
        if (written.endsWith("Exception")) {
            return written;
        }
        int sum = 0;
        for (String part : written.split(" \\+ ")) {
            sum += part.startsWith("'") ? part.charAt(1) : numberOf(part);
        }
        return Integer.toString(sum);
    }

    private static int numberOf(String written) throws IllegalAccessException {
        try {
            return LookaheadMill.class.getField(written).getInt(null);
        } catch (NoSuchFieldException e) {
            return Integer.parseInt(written);
        }
    }

    private static Method methodOf(String name) throws NoSuchMethodException {
        for (Method method : LookaheadMill.class.getMethods()) {
            if (method.getName().equals(name)) {
                return method;
            }
        }
        throw new NoSuchMethodException(name);
    }
}
