import java.io.IOException;
import java.lang.reflect.Method;
import java.nio.file.Files;
import java.nio.file.Path;
import java.util.Arrays;
import java.util.Map;
import java.util.regex.Matcher;
import java.util.regex.Pattern;

/** The example in README.md: each call of it that stands with an answer is made, in its order. */
public final class ReadmeTest {
    private static final Pattern TYPED = Pattern.compile("\"([^\"]+)\"\\.toCharArray\\(\\)");
    private static final Pattern CALL = Pattern.compile("^x\\.(\\w+)\\(([^)]*)\\);\\s+// (-?\\w+):");
    private static final Map<String, Long> NAMES = Map.of("NONE", -1L, "BAD", -2L, "NOT", -3L, "FULL", -4L);
    private static final int CALLS = 12;

    public static void main(String[] args) throws IOException, ReflectiveOperationException {
        CompassMarriage x = new CompassMarriage();
        int made = 0;
        for (String line : Files.readAllLines(Path.of("README.md"))) {
            Matcher typed = TYPED.matcher(line);
            if (typed.find()) {
                for (char sign : typed.group(1).toCharArray()) {
                    x.type(sign);
                }
            }
            Matcher call = CALL.matcher(line);
            if (call.find()) {
                String answer = call.group(3);
                long due = NAMES.containsKey(answer) ? NAMES.get(answer) : Long.parseLong(answer);
                Check.due(line, answerOf(x, call.group(1), call.group(2)), due);
                made++;
            }
        }
        Check.due("calls of the example", made, CALLS);
        Check.end();
    }

    private static long answerOf(CompassMarriage x, String name, String list) throws ReflectiveOperationException {
        Object[] numbers = list.isBlank() ? new Object[0]
            : Arrays.stream(list.split(",\\s*")).map(Integer::valueOf).toArray();
        Class<?>[] types = new Class<?>[numbers.length];
        Arrays.fill(types, int.class);
        Method method = CompassMarriage.class.getMethod(name, types);
        return ((Number) method.invoke(x, numbers)).longValue();
    }
}
