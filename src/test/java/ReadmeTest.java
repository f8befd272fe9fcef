import java.io.IOException;
import java.lang.reflect.InvocationTargetException;
import java.lang.reflect.Method;
import java.lang.reflect.Modifier;
import java.nio.file.Files;
import java.nio.file.Path;
import java.util.List;
import java.util.regex.Matcher;
import java.util.regex.Pattern;

/** The examples of README.md: each call has to answer what stands behind it, and each method has to be told of. */
public final class ReadmeTest {
    private static final String NEW_OBJECT = "Endlessrows x = new Endlessrows();";
    private static final Pattern CALL = Pattern.compile("x\\.(\\w+)\\(([^)]*)\\);\\s*//\\s*(.*)");
    private static final Pattern ANSWER = Pattern.compile("(throws \\w+|\"[^\"]*\"|-?\\d+|true|false)([:,].*)?");

    private static int asked = 0;
    private static int wrong = 0;

    private static void expect(boolean isSo, String what) {
        asked++;
        if (!isSo) {
            wrong++;
            System.out.println("README.md: " + what);
        }
    }

    private static Method find(String name) {
        for (Method method : Endlessrows.class.getDeclaredMethods()) {
            if (Modifier.isPublic(method.getModifiers()) && method.getName().equals(name)) {
                return method;
            }
        }
        return null;
    }

    private static Object[] arguments(String line) {
        if (line.isEmpty()) {
            return new Object[0];
        }
        String[] words = line.split(", ");
        Object[] found = new Object[words.length];
        for (int i = 0; i < words.length; i++) {
            found[i] = words[i].matches("true|false") ? (Object) Boolean.valueOf(words[i]) : Integer.valueOf(words[i]);
        }
        return found;
    }

    private static String answer(Endlessrows x, String name, String line) {
        Method method = find(name);
        if (method == null) {
            return "no method " + name;
        }
        try {
            Object got = method.invoke(x, arguments(line));
            return got instanceof String ? "\"" + got + "\"" : got.toString();
        } catch (InvocationTargetException e) {
            return "throws " + e.getCause().getClass().getSimpleName();
        } catch (IllegalAccessException | IllegalArgumentException e) {
            return "no such call";
        }
    }

    private static void example(Endlessrows x, String line) {
        Matcher call = CALL.matcher(line);
        Matcher answer = ANSWER.matcher(call.matches() ? call.group(3) : "");
        if (x == null || !answer.matches()) {
            expect(false, "not an example: " + line);
            return;
        }
        String got = answer(x, call.group(1), call.group(2));
        expect(got.equals(answer.group(1)), "answered " + got + ": " + line);
    }

    private static void examples(List<String> lines) {
        boolean isExample = false;
        Endlessrows x = null;
        for (String line : lines) {
            if (line.startsWith("```")) {
                isExample = line.equals("```java");
                x = null;
            } else if (isExample && line.equals(NEW_OBJECT)) {
                x = new Endlessrows();
            } else if (isExample) {
                example(x, line);
            }
        }
    }

    private static void methods(String text) {
        for (Method method : Endlessrows.class.getDeclaredMethods()) {
            if (Modifier.isPublic(method.getModifiers())) {
                expect(text.contains("`" + method.getName() + "("), "nothing is told of " + method.getName());
            }
        }
    }

    public static void main(String[] args) throws IOException {
        List<String> lines = Files.readAllLines(Path.of("README.md"));
        examples(lines);
        methods(String.join("\n", lines));
        System.out.println(asked + " things asked, " + wrong + " not as due");
        if (wrong != 0) {
            System.exit(1);
        }
    }
}
