import java.util.ArrayList;
import java.util.List;
import java.util.Random;

/** Long runs of calls from fixed seeds: the program against PlainModel, answer by answer and state by state. */
public final class RandomRunsTest {
    private static final int RUNS = 3000;
    private static final int CALLS = 512;
    private static final String[] NAMES = {"key", "fork", "end", "pipe", "copy", "close", "read", "write", "reap",
        "pause", "signal", "action", "mask", "group", "foreground"};
    /** How often each of NAMES is called, out of their sum. */
    private static final int[] WEIGHTS = {30, 9, 2, 8, 6, 5, 16, 16, 6, 3, 16, 10, 6, 10, 6};
    private static final int[] KEYS = {3, 26, 8, 21, 10, 10, 10, 4, 4, 4, 97, 126, 32, 127, 31, 65, 0, -1, 300};

    private final JobLayer program = new JobLayer();
    private final PlainModel model = new PlainModel();
    private final List<String> told = new ArrayList<>();
    private final Random random;
    /** Some runs hold signals that end processes back, so that crowds of them build up. */
    private final boolean gentle;

    private RandomRunsTest(int seed) {
        random = new Random(seed);
        gentle = seed % 3 != 0;
    }

    public static void main(String[] args) {
        for (int seed = 1; seed <= RUNS; seed++) {
            if (!new RandomRunsTest(seed).passes()) {
                break;
            }
        }
        Check.finish();
    }

    private boolean passes() {
        for (int i = 0; i < CALLS; i++) {
            int which = anyName();
            int[] a = anyArguments(which);
            long bytes = random.nextLong();
            long want = answerOfModel(which, a, bytes);
            long got = answerOfProgram(which, a, bytes);
            told.add(NAMES[which] + "(" + a[0] + ", " + a[1] + ", " + a[2] + ", " + bytes + ") " + want);
            Check.due(NAMES[which], got, want);
            if (got != want || !sameState()) {
                told.forEach(System.out::println);
                return false;
            }
        }
        return true;
    }

    private int anyName() {
        int left = random.nextInt(149);
        int which = 0;
        while (left >= WEIGHTS[which]) {
            left -= WEIGHTS[which];
            which++;
        }
        return which;
    }

    private int among(int least, int most) {
        if (random.nextInt(60) == 0) {
            return random.nextBoolean() ? least - 1 : most + 1 + random.nextInt(2);
        }
        return least + random.nextInt(most - least + 1);
    }

    private int anyProcess() {
        int p = 0;
        for (int tries = 0; tries < 12; tries++) {
            p = among(0, 7);
            if (model.process(p, 0) == 1) {
                break;
            }
        }
        return p;
    }

    private int[] anyArguments(int which) {
        int p = anyProcess();
        switch (NAMES[which]) {
            case "key": return new int[] {KEYS[random.nextInt(KEYS.length)], 0, 0};
            case "end": return new int[] {p, random.nextInt(200) - 50, 0};
            case "copy": return new int[] {p, among(0, 5), among(0, 5)};
            case "read": return new int[] {p, among(0, 5), among(1, 8)};
            case "write": return new int[] {p, among(0, 5), among(1, 8)};
            case "signal": return new int[] {p, among(-8, 7), gentle ? among(4, 7) : among(1, 8)};
            case "action": return new int[] {p, among(1, 7), among(0, 2)};
            case "mask": return new int[] {p, random.nextInt() & random.nextInt() & random.nextInt(), 0};
            case "group": return new int[] {p, among(0, 7), among(0, 7)};
            case "foreground": return new int[] {p, among(0, 7), 0};
            default: return new int[] {p, among(0, 5), 0};
        }
    }

    private long answerOfProgram(int which, int[] a, long bytes) {
        JobLayer x = program;
        try {
            switch (NAMES[which]) {
                case "key": x.key(a[0]); return 0;
                case "fork": return x.fork(a[0]);
                case "end": return x.end(a[0], a[1]);
                case "pipe": return x.pipe(a[0]);
                case "copy": return x.copy(a[0], a[1], a[2]);
                case "close": return x.close(a[0], a[1]);
                case "read": return x.read(a[0], a[1], a[2]);
                case "write": return x.write(a[0], a[1], bytes, a[2]);
                case "reap": return x.reap(a[0], a[1] % 2 == 0);
                case "pause": return x.pause(a[0]);
                case "signal": return x.signal(a[0], a[1], a[2]);
                case "action": return x.action(a[0], a[1], a[2]);
                case "mask": return x.mask(a[0], a[1]);
                case "group": return x.group(a[0], a[1], a[2]);
                default: return x.foreground(a[0], a[1]);
            }
        } catch (IllegalStateException e) {
            return 1000001;
        } catch (IllegalArgumentException e) {
            return 1000002;
        } catch (RuntimeException e) {
            return 1000003;
        }
    }

    private long answerOfModel(int which, int[] a, long bytes) {
        PlainModel x = model;
        try {
            switch (NAMES[which]) {
                case "key": x.key(a[0]); return 0;
                case "fork": return x.fork(a[0]);
                case "end": return x.end(a[0], a[1]);
                case "pipe": return x.pipe(a[0]);
                case "copy": return x.copy(a[0], a[1], a[2]);
                case "close": return x.close(a[0], a[1]);
                case "read": return x.read(a[0], a[1], a[2]);
                case "write": return x.write(a[0], a[1], bytes, a[2]);
                case "reap": return x.reap(a[0], a[1] % 2 == 0);
                case "pause": return x.pause(a[0]);
                case "signal": return x.signal(a[0], a[1], a[2]);
                case "action": return x.action(a[0], a[1], a[2]);
                case "mask": return x.mask(a[0], a[1]);
                case "group": return x.group(a[0], a[1], a[2]);
                default: return x.foreground(a[0], a[1]);
            }
        } catch (IllegalStateException e) {
            return 1000001;
        } catch (IllegalArgumentException e) {
            return 1000002;
        }
    }

    private boolean sameState() {
        boolean same = true;
        for (int p = -1; p <= 8; p++) {
            for (int what = -1; what <= 29; what++) {
                same &= same("process(" + p + ", " + what + ")", program.process(p, what), model.process(p, what));
            }
            for (int k = -1; k <= 16; k++) {
                same &= same("taken(" + p + ", " + k + ")", program.taken(p, k), model.taken(p, k));
                same &= same("heard(" + p + ", " + k + ")", program.heard(p, k), model.heard(p, k));
            }
        }
        for (int k = -6; k <= 65; k++) {
            same &= same("terminal(" + k + ")", program.terminal(k), model.terminal(k));
        }
        return same;
    }

    private static boolean same(String call, int got, int want) {
        if (got != want) {
            Check.due(call, got, want);
        }
        return got == want;
    }
}
