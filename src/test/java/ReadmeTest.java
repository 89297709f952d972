import java.lang.reflect.Method;
import java.lang.reflect.Modifier;
import java.nio.charset.StandardCharsets;
import java.nio.file.Files;
import java.nio.file.Path;
import java.util.regex.Matcher;
import java.util.regex.Pattern;

/** README.md beside the class: its example answers what it says, and its table names every call. */
public final class ReadmeTest {
    private static final Pattern ASKED = Pattern.compile("x\\.(\\w+)\\(([-\\d, ]*)\\);\\s+// (-?\\d+)\\b.*");
    private static final Pattern FED = Pattern.compile("for .*\"(.*)\"\\.toCharArray\\(\\)\\) x\\.feed\\(sign\\);");

    private ReadmeTest() {
    }

    public static void main(String[] args) throws Exception {
        String text = new String(Files.readAllBytes(Path.of("README.md")), StandardCharsets.UTF_8);
        example(text.split("```java\n", 2)[1].split("```", 2)[0]);
        table(text);
        Due.end("ReadmeTest");
    }

    private static void example(String example) throws ReflectiveOperationException {
        OverBacks x = new OverBacks();
        for (String line : example.split("\n")) {
            Matcher asked = ASKED.matcher(line);
            Matcher fed = FED.matcher(line);
            if (asked.matches()) {
                Due.is(line, answer(x, asked.group(1), asked.group(2)), Long.parseLong(asked.group(3)));
            } else if (fed.matches()) {
                for (char sign : fed.group(1).toCharArray()) x.feed(sign);
            } else {
                Due.holds("a line that makes x: " + line, line.equals("OverBacks x = new OverBacks();"));
            }
        }
    }

    private static long answer(OverBacks x, String call, String given) throws ReflectiveOperationException {
        String[] numbers = given.isEmpty() ? new String[0] : given.split(", ");
        Class<?>[] types = new Class<?>[numbers.length];
        Object[] values = new Object[numbers.length];
        for (int i = 0; i < numbers.length; i++) {
            types[i] = int.class;
            values[i] = Integer.parseInt(numbers[i]);
        }
        return ((Number) OverBacks.class.getMethod(call, types).invoke(x, values)).longValue();
    }

    private static void table(String text) {
        StringBuilder rows = new StringBuilder();
        for (String line : text.split("\n")) {
            if (line.startsWith("| ")) rows.append(line);
        }
        for (Method m : OverBacks.class.getDeclaredMethods()) {
            if (!Modifier.isPublic(m.getModifiers())) continue;
            Due.holds("the table names " + m.getName(), rows.indexOf("`" + m.getName() + "`") >= 0);
        }
    }
}
