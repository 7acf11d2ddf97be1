import java.io.IOException;
import java.lang.reflect.Method;
import java.nio.file.Files;
import java.nio.file.Path;
import java.util.ArrayList;
import java.util.Arrays;
import java.util.List;
import java.util.regex.Matcher;
import java.util.regex.Pattern;

/** The calls of README.md's example, as they stand there, with the answers behind them. */
public final class ReadmeTest {
    private static final Pattern CALL = Pattern.compile("x\\.(\\w+)\\(([-0-9, ]*)\\); *// (-?\\d+) .*");

    public static void main(String[] args) throws IOException, ReflectiveOperationException {
        FlowOptimiser x = new FlowOptimiser();
        int calls = 0;
        for (String line : exampleLines()) {
            Matcher call = CALL.matcher(line);
            if (call.matches()) {
                calls++;
                long got = answer(x, call.group(1), arguments(call.group(2)));
                Check.due("README.md: " + line, got, Long.parseLong(call.group(3)));
            } else {
                // A line that is passed over in silence would be a call that nobody tests.
                boolean known = line.isEmpty() || line.equals("FlowOptimiser x = new FlowOptimiser();");
                Check.due("README.md, a line that is no call with its answer: " + line, known ? 0 : 1, 0);
            }
        }
        Check.due("README.md has calls in its example", calls > 0 ? 1 : 0, 1);
        Check.end();
    }

    private static List<String> exampleLines() throws IOException {
        List<String> lines = new ArrayList<>();
        boolean inside = false;
        for (String line : Files.readAllLines(Path.of("README.md"))) {
            if (line.startsWith("```")) {
                inside = line.equals("```java");
            } else if (inside) {
                lines.add(line);
            }
        }
        return lines;
    }

    private static Object[] arguments(String text) {
        List<Object> values = new ArrayList<>();
        for (String part : text.split(",")) {
            if (!part.isBlank()) {
                values.add(Integer.valueOf(part.trim()));
            }
        }
        return values.toArray();
    }

    private static long answer(FlowOptimiser x, String name, Object[] values) throws ReflectiveOperationException {
        Class<?>[] types = new Class<?>[values.length];
        Arrays.fill(types, int.class);
        Method method = FlowOptimiser.class.getMethod(name, types);
        return (Integer) method.invoke(x, values);
    }
}
