import java.io.IOException;
import java.lang.reflect.Method;
import java.nio.file.Files;
import java.nio.file.Path;
import java.util.regex.Matcher;
import java.util.regex.Pattern;

/** Each call in README's example answers what stands behind it there. */
public final class ReadmeTest {
    private static final Pattern CALL = Pattern.compile("x\\.(\\w+)\\((.*)\\); *// (-?\\d+|true|false).*");

    public static void main(String[] args) throws IOException, ReflectiveOperationException {
        Due due = new Due();
        BelievedOnce x = new BelievedOnce();
        boolean inExample = false;
        int calls = 0;
        for (String line : Files.readAllLines(Path.of("README.md"))) {
            if (line.startsWith("```")) {
                inExample = line.equals("```java");
            } else if (inExample && line.startsWith("x.")) {
                Matcher parts = CALL.matcher(line);
                due.is("a call with its answer: " + line, parts.matches(), true);
                due.same(line, answer(x, parts.group(1), parts.group(2)), parts.group(3));
                calls++;
            }
        }
        due.is("there is an example", calls > 0, true);
        due.close("ReadmeTest");
    }

    private static String answer(BelievedOnce x, String name, String told) throws ReflectiveOperationException {
        String[] texts = told.isEmpty() ? new String[0] : told.split(", ");
        for (Method m : BelievedOnce.class.getMethods()) {
            if (m.getName().equals(name)) {
                Object[] values = new Object[texts.length];
                for (int i = 0; i < texts.length; i++) {
                    values[i] = value(m.getParameterTypes()[i], texts[i]);
                }
                return String.valueOf(m.invoke(x, values));
            }
        }
        return "no method " + name;
    }

    private static Object value(Class<?> type, String text) {
        if (type == long.class) {
            return Long.decode(text.replace("L", ""));
        }
        return type == boolean.class ? (Object) Boolean.valueOf(text) : (Object) Integer.decode(text);
    }
}
