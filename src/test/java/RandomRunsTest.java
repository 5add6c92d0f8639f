import java.util.ArrayList;
import java.util.Arrays;
import java.util.List;
import java.util.Random;
import java.util.Set;

/**
 * Runs of calls from fixed seeds: the program against PlainModel, answer by answer. An object gets no more than
 * 512 calls, questions too, since the document promises nothing beyond.
 */
public final class RandomRunsTest {
    private static final int LONG_RUNS = 4000;
    private static final int LONG = 512;
    /** Short enough for all questions to be asked behind it. */
    private static final int SHORT_RUNS = 4000;
    private static final int SHORT = 70;
    private static final String[] NAMES = {"key", "fork", "end", "pipe", "copy", "close", "read", "write", "reap",
        "pause", "signal", "action", "mask", "group", "foreground", "process", "taken", "heard", "terminal"};
    /** How often each of NAMES is called in a long run; in a short one no question is asked before its end. */
    private static final int[] WEIGHTS = {30, 9, 2, 8, 6, 5, 16, 16, 6, 3, 16, 10, 6, 10, 6, 100, 15, 10, 20};
    private static final int QUESTIONS = 4;
    private static final Set<String> WAITS = Set.of("read", "write", "reap", "pause");
    private static final int[] KEYS = {3, 26, 8, 21, 10, 10, 10, 4, 4, 4, 97, 126, 32, 127, 31, 65, 0, -1, 300};

    private final JobLayer program = new JobLayer();
    private final PlainModel model = new PlainModel();
    private final List<String> told = new ArrayList<>();
    private final Random random;
    private final int calls;
    /** Some runs hold back the signals that end processes, so that crowds of them build up. */
    private final boolean gentle;

    private RandomRunsTest(int seed, int calls) {
        this.calls = calls;
        random = new Random(seed);
        gentle = seed % 3 != 0;
    }

    public static void main(String[] args) {
        boolean good = true;
        for (int seed = 1; good && seed <= LONG_RUNS + SHORT_RUNS; seed++) {
            RandomRunsTest run = new RandomRunsTest(seed, seed <= LONG_RUNS ? LONG : SHORT);
            good = run.passes();
            if (!good) {
                run.told.forEach(System.out::println);
                System.out.println("in the run of seed " + seed);
            }
        }
        Check.finish();
    }

    private boolean passes() {
        boolean asking = calls == LONG;
        for (int i = 0; i < calls; i++) {
            String name = anyName(asking ? NAMES.length : NAMES.length - QUESTIONS);
            Object[] arguments = anyArguments(name);
            String want = Calls.answer(model, name, arguments);
            String call = Calls.told(name, arguments);
            told.add(call + " " + want);
            if (!same(call, Calls.answer(program, name, arguments), want)) {
                return false;
            }
        }
        return asking || same("all questions", Calls.state(program).toString(), Calls.state(model).toString());
    }

    private static boolean same(String call, String got, String want) {
        Check.due(call, got, want);
        return got.equals(want);
    }

    private String anyName(int among) {
        int left = random.nextInt(Arrays.stream(WEIGHTS, 0, among).sum());
        int which = 0;
        while (left >= WEIGHTS[which]) {
            left -= WEIGHTS[which];
            which++;
        }
        return NAMES[which];
    }

    /** Mostly least .. most, now and then just or far outside. */
    private int among(int least, int most) {
        if (random.nextInt(60) == 0) {
            int[] outside = {least - 1, most + 1, Integer.MIN_VALUE, Integer.MAX_VALUE};
            return outside[random.nextInt(outside.length)];
        }
        return least + random.nextInt(most - least + 1);
    }

    private int anyReady(int least) {
        int p = 0;
        for (int tries = 0; tries < 12; tries++) {
            p = among(least, 7);
            if (model.process(p, 0) == 1) {
                break;
            }
        }
        return p;
    }

    /** Process 0 seldom waits, since a run in which nobody is READY any more goes nowhere. */
    private int anyCaller(String name) {
        return anyReady(WAITS.contains(name) && random.nextInt(40) != 0 ? 1 : 0);
    }

    /** Often a process that is there: most of what is named blindly is not. */
    private int anyTarget() {
        int to = among(-8, 7);
        for (int tries = random.nextInt(5); tries > 0 && model.process(to, 0) < 0; tries--) {
            to = among(-8, 7);
        }
        return to;
    }

    private int anyKey() {
        int c = KEYS[random.nextInt(KEYS.length)];
        return c == 3 && gentle && random.nextInt(10) != 0 ? 26 : c;
    }

    /** Half of them for a group of its own. */
    private Object[] anyGrouping(int p) {
        int q = among(0, 7);
        return new Object[] {p, q, random.nextBoolean() ? q : among(0, 7)};
    }

    private Object[] anyArguments(String name) {
        int p = anyCaller(name);
        switch (name) {
            case "key": return new Object[] {anyKey()};
            case "fork", "pipe", "pause": return new Object[] {p};
            case "end": return new Object[] {p, random.nextInt(200) - 50};
            case "copy": return new Object[] {p, among(0, 5), among(0, 5)};
            case "close": return new Object[] {p, among(0, 5)};
            case "read": return new Object[] {p, among(0, 5), among(1, 8)};
            case "write": return new Object[] {p, among(0, 5), random.nextLong(), among(1, 8)};
            case "reap": return new Object[] {p, random.nextBoolean()};
            case "signal": return new Object[] {p, anyTarget(), gentle ? among(4, 7) : among(1, 8)};
            case "action": return new Object[] {p, among(1, 7), random.nextBoolean() ? 2 : among(0, 2)};
            case "mask": return new Object[] {p, random.nextInt() & random.nextInt() & random.nextInt()};
            case "group": return anyGrouping(p);
            case "foreground": return new Object[] {p, among(0, 7)};
            case "process": return new Object[] {among(0, 7), random.nextBoolean() ? among(0, 8) : among(10, 27)};
            case "taken": return new Object[] {among(0, 7), among(0, 7)};
            case "heard": return new Object[] {among(0, 7), among(0, 15)};
            default: return new Object[] {random.nextBoolean() ? among(-5, 0) : among(0, 63)};
        }
    }
}
