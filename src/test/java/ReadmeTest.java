import java.io.IOException;
import java.nio.file.Files;
import java.nio.file.Path;
import java.util.HashMap;
import java.util.Map;
import java.util.regex.Matcher;
import java.util.regex.Pattern;

/** The examples of README.md: each call there answers what is written behind it. */
public final class ReadmeTest {
    private static final String NEW_OBJECT = "JobLayer system = new JobLayer();";
    private static final Pattern CALL = Pattern.compile(
            "(?:int (\\w+) = )?system\\.(\\w+)\\(([^)]*)\\);(?:\\s+// (throws \\w+|-?\\d+)?.*)?");
    private static final Pattern WORD = Pattern.compile("\\b[a-z]\\w*");

    private final Map<String, String> variables = new HashMap<>();
    private JobLayer system;

    public static void main(String[] args) throws IOException {
        ReadmeTest example = null;
        for (String line : Files.readAllLines(Path.of("README.md"))) {
            if (line.startsWith("```")) {
                example = line.equals("```java") ? new ReadmeTest() : null;
            } else if (example != null) {
                example.hold(line);
            }
        }
        Check.finish();
    }

    private void hold(String line) {
        if (line.equals(NEW_OBJECT)) {
            system = new JobLayer();
            return;
        }
        Matcher parts = CALL.matcher(line);
        if (!parts.matches()) {
            throw new AssertionError("no call, or more than one: " + line);
        }
        String due = parts.group(4) == null ? null : parts.group(4).replace(' ', '.');
        Run.Step step = Run.step(parts.group(2), withValues(parts.group(3)), due);
        Check.due("README.md: " + line, step.answer(system), step.due());
        if (parts.group(1) != null) {
            variables.put(parts.group(1), due);
        }
    }

    private String withValues(String arguments) {
        return WORD.matcher(arguments).replaceAll(word -> variables.getOrDefault(word.group(), word.group()));
    }
}
