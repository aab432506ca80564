import java.io.IOException;
import java.lang.reflect.InvocationTargetException;
import java.lang.reflect.Method;
import java.lang.reflect.Modifier;
import java.nio.file.Files;
import java.nio.file.Path;
import java.util.regex.Matcher;
import java.util.regex.Pattern;

/** README.md's example answers what it says there, and its tables leave out no call and no test. */
public final class ReadmeTest {
    private static final Path README = Path.of("README.md");
    private static final Path TESTS = Path.of("src", "test", "java");
    /** A call, and what it answers: a number, the name of a constant, or that of an exception. */
    private static final Pattern LINE = Pattern.compile("x\\.(\\w+)\\(([^)]*)\\); *// .*: (-?\\w+)");

    public static void main(String[] args) throws IOException, ReflectiveOperationException {
        String text = Files.readString(README);
        example(text);
        calls(text);
        tests(text);
        Due.end();
    }

    private static void example(String text) throws ReflectiveOperationException {
        WideWholes x = new WideWholes();
        for (String line : text.split("\n")) {
            if (line.startsWith("x.")) {
                Matcher parts = LINE.matcher(line);
                boolean understood = parts.matches();
                Due.due(line + " has a call and its answer", understood, true);
                if (understood) {
                    Due.due(line, answer(x, parts.group(1), parts.group(2).split(", ")), numberOf(parts.group(3)));
                }
            }
        }
    }

    private static String answer(WideWholes x, String name, String[] numbers) throws ReflectiveOperationException {
        Method method = methodOf(name);
        if (method == null || method.getParameterCount() != numbers.length) {
            return "no such call";
        }
        Object[] given = new Object[numbers.length];
        for (int i = 0; i < numbers.length; i++) {
            long number = Long.decode(numbers[i].replaceFirst("L$", ""));
            if (method.getParameterTypes()[i] == int.class) {
                given[i] = (int) number;
            } else {
                given[i] = number;
            }
        }
        try {
            return method.invoke(x, given).toString();
        } catch (InvocationTargetException e) {
            return e.getCause().getClass().getSimpleName();
        }
    }

    private static Method methodOf(String name) {
        for (Method method : WideWholes.class.getMethods()) {
            if (method.getName().equals(name)) {
                return method;
            }
        }
        return null;
    }

    private static String numberOf(String answer) throws ReflectiveOperationException {
        return answer.matches("[A-Z]+") ? WideWholes.class.getField(answer).get(null).toString() : answer;
    }

    private static void calls(String text) {
        for (Method method : WideWholes.class.getDeclaredMethods()) {
            if (Modifier.isPublic(method.getModifiers())) {
                Due.due(method.getName() + " has a row", text.contains("\n| `" + method.getName() + "("), true);
            }
        }
    }

    private static void tests(String text) throws IOException {
        try (var files = Files.list(TESTS)) {
            for (Path file : files.sorted().toList()) {
                String name = file.getFileName().toString().replaceFirst("\\.java$", "");
                if (name.endsWith("Test")) {
                    Due.due(name + " has a row", text.contains("\n| `" + name + "` |"), true);
                }
            }
        }
    }
}
