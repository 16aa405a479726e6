import java.io.IOException;
import java.lang.reflect.Method;
import java.nio.file.Files;
import java.nio.file.Path;
import java.util.regex.Matcher;
import java.util.regex.Pattern;

/** The example in README.md answers what stands behind its calls. Runs in the project's folder. */
public final class ReadmeTest {
    private static final Checks CHECKS = new Checks();
    private static final Pattern CALL = Pattern.compile("vend\\.(\\w+)\\(([^)]*)\\); *// (-?\\d+|true|false)\\b.*");
    private static final Pattern TEXT = Pattern.compile("feed\\(vend, \"([^\"]*)\"\\);");

    private ReadmeTest() {
    }

    private static Method named(String name) {
        for (Method method : CoalVend.class.getMethods()) {
            if (method.getName().equals(name)) {
                return method;
            }
        }
        throw new IllegalArgumentException("no method " + name);
    }

    private static Object number(Class<?> type, String text) {
        if (type == boolean.class) {
            return Boolean.valueOf(text);
        }
        return type == long.class ? (Object) Long.valueOf(text) : (Object) Integer.valueOf(text);
    }

    private static String answer(CoalVend vend, String name, String arguments) throws ReflectiveOperationException {
        Method method = named(name);
        String[] parts = arguments.isEmpty() ? new String[0] : arguments.split(", ");
        Object[] numbers = new Object[parts.length];
        for (int i = 0; i < parts.length; i++) {
            numbers[i] = number(method.getParameterTypes()[i], parts[i]);
        }
        return String.valueOf(method.invoke(vend, numbers));
    }

    public static void main(String[] args) throws IOException, ReflectiveOperationException {
        CoalVend vend = new CoalVend();
        int calls = 0;
        for (String line : Files.readAllLines(Path.of("README.md"))) {
            Matcher text = TEXT.matcher(line);
            Matcher call = CALL.matcher(line);
            if (text.matches()) {
                Checks.feed(vend, text.group(1));
            } else if (call.matches()) {
                String got = answer(vend, call.group(1), call.group(2));
                CHECKS.due(line + " (answered " + got + ")", true, got.equals(call.group(3)));
                calls++;
            } else {
                CHECKS.due("an answer stands behind " + line, false, line.startsWith("vend."));
            }
        }
        CHECKS.due("calls were found", true, calls >= 25);
        CHECKS.finish();
    }
}
