import java.io.IOException;
import java.lang.reflect.InvocationTargetException;
import java.lang.reflect.Method;
import java.nio.file.Files;
import java.nio.file.Path;
import java.util.regex.Matcher;
import java.util.regex.Pattern;

/** README.md's calls answer what it says there. It is found in the folder that .ci/run runs tests in. */
public final class ReadmeTest {
    private static final Pattern CALL =
            Pattern.compile("x\\.(\\w+)\\(([^)]*)\\);(?:\\s*// (?:(answers|throws) (-?\\w+))?.*)?");

    public static void main(String[] args) throws IOException, ReflectiveOperationException {
        LazyTester x = new LazyTester();
        int calls = 0;
        for (String line : Files.readAllLines(Path.of("README.md"))) {
            Matcher call = CALL.matcher(line);
            if (call.matches()) {
                calls++;
                String outcome = outcome(x, call.group(1), call.group(2));
                if (call.group(3) != null) {
                    Expect.texts(line, outcome, call.group(3) + " " + call.group(4));
                }
            }
        }
        Expect.answers("calls of README.md", calls > 40 ? 1 : 0, 1);
        Expect.end();
    }

    private static String outcome(LazyTester x, String name, String given) throws ReflectiveOperationException {
        String[] texts = given.isEmpty() ? new String[0] : given.split(", ");
        Method method = method(name);
        Object[] numbers = new Object[texts.length];
        for (int i = 0; i < texts.length; i++) {
            if (method.getParameterTypes()[i] == long.class) {
                numbers[i] = Long.valueOf(texts[i]);
            } else {
                numbers[i] = Integer.valueOf(texts[i]);
            }
        }
        try {
            return "answers " + named(method.invoke(x, numbers));
        } catch (InvocationTargetException e) {
            return "throws " + e.getCause().getClass().getSimpleName();
        }
    }

    private static Method method(String name) throws NoSuchMethodException {
        for (Method method : LazyTester.class.getDeclaredMethods()) {
            if (method.getName().equals(name)) {
                return method;
            }
        }
        throw new NoSuchMethodException(name);
    }

    private static String named(Object answer) {
        if (answer instanceof Integer number && number == LazyTester.HOLE) {
            return "HOLE";
        }
        if (answer instanceof Integer number && number == LazyTester.NONE) {
            return "NONE";
        }
        return String.valueOf(answer);
    }
}
