import java.lang.reflect.InvocationTargetException;
import java.lang.reflect.Method;
import java.util.ArrayList;
import java.util.Arrays;
import java.util.HashMap;
import java.util.List;
import java.util.Map;
import java.util.Random;

/** Long runs of calls from fixed seeds: the program against PlainModel, answer by answer and state by state. */
public final class RandomRunsTest {
    private static final int RUNS = 1000;
    private static final int CALLS = 512;
    private static final String[] NAMES = {"key", "fork", "end", "pipe", "copy", "close", "read", "write", "reap",
        "pause", "signal", "action", "mask", "group", "foreground"};
    /** How often each of NAMES is called, out of WEIGHT_SUM. */
    private static final int[] WEIGHTS = {30, 9, 2, 8, 6, 5, 16, 16, 6, 3, 16, 10, 6, 10, 6};
    private static final int WEIGHT_SUM = Arrays.stream(WEIGHTS).sum();
    private static final int[] KEYS = {3, 26, 8, 21, 10, 10, 10, 4, 4, 4, 97, 126, 32, 127, 31, 65, 0, -1, 300};
    private static final Map<String, Method> OF_PROGRAM = methods(JobLayer.class);
    private static final Map<String, Method> OF_MODEL = methods(PlainModel.class);

    private final JobLayer program = new JobLayer();
    private final PlainModel model = new PlainModel();
    private final List<String> told = new ArrayList<>();
    private final Random random;
    /** Some runs hold back the signals that end processes, so that crowds of them build up. */
    private final boolean gentle;

    private RandomRunsTest(int seed) {
        random = new Random(seed);
        gentle = seed % 3 != 0;
    }

    public static void main(String[] args) {
        for (int seed = 1; seed <= RUNS; seed++) {
            if (!new RandomRunsTest(seed).passes()) {
                System.out.println("in the run of seed " + seed);
                break;
            }
        }
        Check.finish();
    }

    private static Map<String, Method> methods(Class<?> owner) {
        Map<String, Method> byName = new HashMap<>();
        for (Method m : owner.getDeclaredMethods()) {
            if (Arrays.asList(NAMES).contains(m.getName())) {
                byName.put(m.getName(), m);
            }
        }
        return byName;
    }

    private boolean passes() {
        for (int i = 0; i < CALLS; i++) {
            String name = anyName();
            Object[] arguments = anyArguments(name);
            String want = answer(model, OF_MODEL.get(name), arguments);
            String got = answer(program, OF_PROGRAM.get(name), arguments);
            String call = name + Arrays.toString(arguments);
            told.add(call + " " + want);
            Check.due(call, got, want);
            if (!got.equals(want) || !sameState()) {
                told.forEach(System.out::println);
                return false;
            }
        }
        return true;
    }

    private static String answer(Object target, Method method, Object[] arguments) {
        try {
            return String.valueOf(method.invoke(target, arguments));
        } catch (InvocationTargetException e) {
            return "throws." + e.getCause().getClass().getSimpleName();
        } catch (IllegalAccessException e) {
            throw new AssertionError(e);
        }
    }

    private String anyName() {
        int left = random.nextInt(WEIGHT_SUM);
        int which = 0;
        while (left >= WEIGHTS[which]) {
            left -= WEIGHTS[which];
            which++;
        }
        return NAMES[which];
    }

    /** Mostly least .. most, now and then just outside. */
    private int among(int least, int most) {
        if (random.nextInt(60) == 0) {
            return random.nextBoolean() ? least - 1 : most + 1;
        }
        return least + random.nextInt(most - least + 1);
    }

    private int anyProcess() {
        int p = 0;
        for (int tries = 0; tries < 12; tries++) {
            p = among(0, 7);
            if (model.process(p, 0) == 1) {
                break;
            }
        }
        return p;
    }

    private Object[] anyArguments(String name) {
        int p = anyProcess();
        switch (name) {
            case "key": return new Object[] {KEYS[random.nextInt(KEYS.length)]};
            case "fork", "pipe", "pause": return new Object[] {p};
            case "end": return new Object[] {p, random.nextInt(200) - 50};
            case "copy": return new Object[] {p, among(0, 5), among(0, 5)};
            case "close": return new Object[] {p, among(0, 5)};
            case "read": return new Object[] {p, among(0, 5), among(1, 8)};
            case "write": return new Object[] {p, among(0, 5), random.nextLong(), among(1, 8)};
            case "reap": return new Object[] {p, random.nextBoolean()};
            case "signal": return new Object[] {p, among(-8, 7), gentle ? among(4, 7) : among(1, 8)};
            case "action": return new Object[] {p, among(1, 7), among(0, 2)};
            case "mask": return new Object[] {p, random.nextInt() & random.nextInt() & random.nextInt()};
            case "group": return new Object[] {p, among(0, 7), among(0, 7)};
            default: return new Object[] {p, among(0, 7)};
        }
    }

    private boolean sameState() {
        boolean same = true;
        for (int p = -1; p <= 8; p++) {
            for (int what = -1; what <= 29; what++) {
                same &= same("process", p, what, program.process(p, what), model.process(p, what));
            }
            for (int k = -1; k <= 16; k++) {
                same &= same("taken", p, k, program.taken(p, k), model.taken(p, k));
                same &= same("heard", p, k, program.heard(p, k), model.heard(p, k));
            }
        }
        for (int k = -6; k <= 65; k++) {
            same &= same("terminal", k, 0, program.terminal(k), model.terminal(k));
        }
        return same;
    }

    private static boolean same(String name, int a, int b, int got, int want) {
        if (got != want) {
            Check.due(name + "(" + a + ", " + b + ")", got, want);
        }
        return got == want;
    }
}
