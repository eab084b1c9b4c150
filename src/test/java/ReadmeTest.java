import java.io.IOException;
import java.lang.reflect.Method;
import java.lang.reflect.Modifier;
import java.nio.file.Files;
import java.nio.file.Path;
import java.util.regex.Matcher;
import java.util.regex.Pattern;

/** The example of README.md answers as it says there, and its table of calls has the whole face with its arguments. */
public final class ReadmeTest {
    private static final Checks C = new Checks();
    private static final Pattern EXAMPLE = Pattern.compile("(?s)```java\n(.*?)```");
    private static final Pattern MADE = Pattern.compile("BreadString x = new BreadString\\(\\);");
    private static final Pattern TYPED = Pattern.compile(
        "for \\(char b : \"([^\"]*)\"\\.toCharArray\\(\\)\\) x\\.type\\(([01]), b\\);\\s*//.*");
    private static final Pattern CALL = Pattern.compile("x\\.(\\w+)\\(([-\\d, ]*)\\);\\s*// (-?\\d+)(:.*)?");

    public static void main(String[] args) throws IOException, ReflectiveOperationException {
        String readme = Files.readString(Path.of("README.md"));
        example(readme);
        table(readme);
        C.end();
    }

    private static void example(String readme) throws ReflectiveOperationException {
        Matcher block = EXAMPLE.matcher(readme);
        C.due("README.md has an example", block.find() ? 1 : 0, 1);
        BreadString x = new BreadString();
        int calls = 0;
        for (String line : block.group(1).split("\n")) {
            Matcher typed = TYPED.matcher(line);
            Matcher call = CALL.matcher(line);
            if (typed.matches()) {
                Checks.type(x, Integer.parseInt(typed.group(2)), typed.group(1));
            } else if (call.matches()) {
                C.due(line, answer(x, call.group(1), call.group(2)), Long.parseLong(call.group(3)));
                calls++;
            } else {
                C.due("a line that is no call: " + line, MADE.matcher(line).matches() ? 1 : 0, 1);
            }
        }
        C.due("calls in the example, one at least", calls > 0 ? 1 : 0, 1);
    }

    private static long answer(BreadString x, String name, String list) throws ReflectiveOperationException {
        String[] parts = list.isEmpty() ? new String[0] : list.split(", ");
        Object[] values = new Object[parts.length];
        for (int i = 0; i < parts.length; i++) {
            values[i] = Integer.valueOf(parts[i]);
        }
        for (Method m : BreadString.class.getDeclaredMethods()) {
            if (m.getName().equals(name) && Modifier.isPublic(m.getModifiers())) {
                return ((Number) m.invoke(x, values)).longValue();
            }
        }
        throw new IllegalStateException("no such call: " + name);
    }

    private static void table(String readme) {
        for (Method m : BreadString.class.getDeclaredMethods()) {
            if (Modifier.isPublic(m.getModifiers())) {
                String more = m.getParameterCount() == 0 ? "" : "\\w+(, \\w+){" + (m.getParameterCount() - 1) + "}";
                Pattern call = Pattern.compile("(?m)^\\| .*`" + m.getName() + "\\(" + more + "\\)`.* \\| ");
                C.due("in the table of README.md: " + m.getName(), call.matcher(readme).find() ? 1 : 0, 1);
            }
        }
    }
}
