import java.io.IOException;
import java.lang.reflect.Method;
import java.lang.reflect.Modifier;
import java.nio.file.Files;
import java.nio.file.Path;
import java.util.HashSet;
import java.util.Set;
import java.util.regex.Matcher;
import java.util.regex.Pattern;

/** README.md: its calls, one behind the other, answer what stands behind them, and name the whole face. */
public final class ReadmeTest {
    private static final Pattern CODE = Pattern.compile("(?s)```java\n(.*?)```");
    private static final Pattern FED = Pattern.compile("for \\(char letter : \"([^\"]*)\"\\.toCharArray\\(\\)\\) \\{");
    private static final Pattern CALL = Pattern.compile("x\\.(\\w+)\\(([-0-9, ]*)\\); *// (-?\\d+): .+");

    public static void main(String[] args) throws IOException, ReflectiveOperationException {
        Checks.begin("README.md");
        Matcher code = CODE.matcher(Files.readString(Path.of("README.md")));
        Checks.yes("there is code", code.find());
        SolesByWhatIsTold x = new SolesByWhatIsTold();
        Set<String> called = new HashSet<>();
        for (String line : code.group(1).split("\n")) {
            Matcher fed = FED.matcher(line);
            Matcher call = CALL.matcher(line);
            if (fed.matches()) {
                for (char letter : fed.group(1).toCharArray()) {
                    x.feed(letter);
                }
                called.add("feed");
            } else if (call.matches()) {
                long got = answer(x, call.group(1), call.group(2));
                Checks.due(line, got, Long.parseLong(call.group(3)));
                called.add(call.group(1));
            } else {
                Checks.yes("no call without an answer: " + line, isPlain(line));
            }
        }
        for (Method method : SolesByWhatIsTold.class.getDeclaredMethods()) {
            if (Modifier.isPublic(method.getModifiers())) {
                Checks.yes(method.getName() + "() is shown", called.contains(method.getName()));
            }
        }
        Checks.end();
    }

    private static boolean isPlain(String line) {
        return line.isEmpty() || line.startsWith("// ") || line.equals("    x.feed(letter);") || line.equals("}")
            || line.equals("SolesByWhatIsTold x = new SolesByWhatIsTold();");
    }

    private static long answer(SolesByWhatIsTold x, String name, String numbers) throws ReflectiveOperationException {
        String[] parts = numbers.isEmpty() ? new String[0] : numbers.split(", ");
        Class<?>[] types = new Class<?>[parts.length];
        Object[] values = new Object[parts.length];
        for (int i = 0; i < parts.length; i++) {
            types[i] = int.class;
            values[i] = Integer.valueOf(parts[i]);
        }
        return ((Number) SolesByWhatIsTold.class.getMethod(name, types).invoke(x, values)).longValue();
    }
}
