import java.io.IOException;
import java.lang.reflect.Method;
import java.nio.file.Files;
import java.nio.file.Path;
import java.util.ArrayList;
import java.util.List;
import java.util.regex.Matcher;
import java.util.regex.Pattern;

/** A run of calls on a new object with the answers that are due, as it stands in a file of src/test/runs. */
record Run(String title, List<Step> steps) {
    record Step(String name, Object[] arguments, String due) {
        String answer(Object target) {
            return Calls.answer(target, name, arguments);
        }

        String told() {
            return Calls.told(name, arguments);
        }
    }

    private static final Pattern STEP = Pattern.compile("(?:(\\d+) x )?(\\w+)\\((.*?)\\)(?: (\\S+))?");

    static List<Run> read(Path file) throws IOException {
        List<Run> runs = new ArrayList<>();
        for (String line : Files.readAllLines(file)) {
            if (line.startsWith("\"")) {
                runs.add(new Run(line, new ArrayList<>()));
            } else if (line.startsWith("    ")) {
                for (String call : line.strip().split("; ")) {
                    addSteps(runs.get(runs.size() - 1).steps, call);
                }
            } else if (!line.isEmpty() && !line.startsWith("#")) {
                throw new AssertionError("neither a sentence nor calls: " + line);
            }
        }
        return runs;
    }

    private static void addSteps(List<Step> steps, String call) {
        Matcher parts = STEP.matcher(call);
        if (!parts.matches()) {
            throw new AssertionError("no call: " + call);
        }
        int times = parts.group(1) == null ? 1 : Integer.parseInt(parts.group(1));
        for (int i = 0; i < times; i++) {
            if (parts.group(2).equals("keys")) {
                parts.group(3).chars().forEach(c -> steps.add(new Step("key", new Object[] {c}, "null")));
            } else {
                steps.add(step(parts.group(2), parts.group(3), parts.group(4)));
            }
        }
    }

    static Step step(String name, String list, String due) {
        Method method = Calls.method(JobLayer.class, name);
        String[] texts = list.split(", ");
        Object[] arguments = new Object[texts.length];
        for (int i = 0; i < texts.length; i++) {
            arguments[i] = argument(method.getParameterTypes()[i], texts[i]);
        }
        if ((due == null) != name.equals("key")) {
            throw new AssertionError("an answer is due of every call but of a key: " + Calls.told(name, arguments));
        }
        boolean thrown = due != null && due.startsWith("throws.");
        return new Step(name, arguments, due == null || thrown ? String.valueOf(due) : String.valueOf(number(due)));
    }

    /** Of the number's type, as reflection wants it. */
    private static Object argument(Class<?> type, String text) {
        if (type == boolean.class) {
            return text.equals("true");
        }
        long value = number(text);
        if (type == long.class) {
            return value;
        }
        return Math.toIntExact(value);
    }

    private static long number(String text) {
        if (text.equals("MIN")) {
            return Integer.MIN_VALUE;
        }
        if (text.equals("MAX")) {
            return Integer.MAX_VALUE;
        }
        if (text.startsWith("'")) {
            return text.charAt(1);
        }
        return text.startsWith("0x") ? Long.parseUnsignedLong(text.substring(2), 16) : Long.parseLong(text);
    }
}
