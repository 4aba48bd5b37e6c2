import java.io.IOException;
import java.lang.reflect.InvocationTargetException;
import java.lang.reflect.Method;
import java.lang.reflect.Modifier;
import java.nio.file.Files;
import java.nio.file.Path;
import java.util.List;
import java.util.regex.Matcher;
import java.util.regex.Pattern;

/** README.md: each call of its example answers what stands behind it, and no call is left out. */
public final class ReadmeTest {
    private static final Path README = Path.of("README.md");
    private static final String MAKING = "ChoreAssignment chores = new ChoreAssignment();";
    private static final Pattern CALL =
        Pattern.compile("chores\\.(\\w+)\\((.*)\\); +// (-?\\w+)\\b.*");

    private ReadmeTest() {
    }

    private static Method methodOf(String name) {
        for (Method method : ChoreAssignment.class.getMethods()) {
            if (method.getName().equals(name)) {
                return method;
            }
        }
        throw new AssertionError("README.md calls " + name);
    }

    private static Object argument(Class<?> type, String text) {
        if (type == boolean.class) {
            return Boolean.valueOf(text);
        }
        if (type == long.class) {
            return Long.valueOf(text);
        }
        return Integer.valueOf(text);
    }

    private static Object outcome(ChoreAssignment chores, String name, String list) {
        Method method = methodOf(name);
        String[] texts = list.isEmpty() ? new String[0] : list.split(", ");
        Object[] arguments = new Object[texts.length];
        for (int index = 0; index < texts.length; index++) {
            arguments[index] = argument(method.getParameterTypes()[index], texts[index]);
        }
        try {
            return String.valueOf(method.invoke(chores, arguments));
        } catch (InvocationTargetException e) {
            return e.getCause().getClass().getSimpleName();
        } catch (IllegalAccessException e) {
            throw new AssertionError(e);
        }
    }

    private static void exampleHolds(List<String> lines) {
        int first = lines.indexOf("```java") + 1;
        Check.same("first line of the example", lines.get(first), MAKING);
        ChoreAssignment chores = new ChoreAssignment();
        int calls = 0;
        for (String line : lines.subList(first + 1, lines.lastIndexOf("```"))) {
            Matcher call = CALL.matcher(line);
            Check.same("a call with its answer: " + line, call.matches(), true);
            if (call.matches()) {
                Check.same(line, outcome(chores, call.group(1), call.group(2)), call.group(3));
                calls++;
            }
        }
        Check.same("calls in the example", calls >= 4, true);
    }

    private static void eachCallIsNamed(String text) {
        for (Method method : ChoreAssignment.class.getDeclaredMethods()) {
            if (Modifier.isPublic(method.getModifiers())) {
                String name = "`" + method.getName() + "`";
                Check.same("README.md names " + name, text.contains(name), true);
            }
        }
        Check.same("README.md says how the tests run", text.contains("    .ci/run\n"), true);
    }

    public static void main(String[] args) throws IOException {
        exampleHolds(Files.readAllLines(README));
        eachCallIsNamed(Files.readString(README));
        Check.end();
    }
}
