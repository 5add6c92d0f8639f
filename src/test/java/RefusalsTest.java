import java.util.LinkedHashMap;
import java.util.Map;

/**
 * "IllegalStateException: p is not READY", for every call and every way of not being READY; where it is said to
 * be first, with other arguments that are wrong too. Nothing changes by a call that is refused.
 */
public final class RefusalsTest {
    private static final int[] NEVER_READY = {-1, 8, -8, 255, Integer.MIN_VALUE, Integer.MAX_VALUE};
    private static final String REFUSED = "throws.IllegalStateException";
    /** For each call what may stand behind p: good arguments first, then wrong ones. */
    private static final Map<String, Object[][]> BEHIND_P = new LinkedHashMap<>();

    static {
        BEHIND_P.put("fork", new Object[][] {{}});
        BEHIND_P.put("end", new Object[][] {{0}, {64}});
        BEHIND_P.put("pipe", new Object[][] {{}});
        BEHIND_P.put("copy", new Object[][] {{0, 2}, {2, 0}, {6, 0}, {0, -1}});
        BEHIND_P.put("close", new Object[][] {{0}, {2}, {6}, {-1}});
        BEHIND_P.put("read", new Object[][] {{0, 1}, {2, 1}, {6, 1}, {0, 0}, {0, 9}, {-1, -1}});
        BEHIND_P.put("write", new Object[][] {{1, 65L, 1}, {2, 65L, 1}, {6, 65L, 1}, {1, 65L, 0}, {1, 65L, 9}, {-1, 65L, -1}});
        BEHIND_P.put("reap", new Object[][] {{false}, {true}});
        BEHIND_P.put("pause", new Object[][] {{}});
        BEHIND_P.put("signal", new Object[][] {{0, 3}, {-1, 3}, {7, 3}, {0, 0}, {0, 9}, {8, 3}, {-9, 3}, {8, 9}});
        BEHIND_P.put("action", new Object[][] {{3, 1}, {0, 1}, {8, 1}, {3, -1}, {3, 3}, {8, 3}});
        BEHIND_P.put("mask", new Object[][] {{8}, {0}});
        BEHIND_P.put("group", new Object[][] {{1, 1}, {2, 0}, {0, 0}, {8, 8}});
        BEHIND_P.put("foreground", new Object[][] {{0}, {2}, {8}});
    }

    public static void main(String[] args) {
        for (String name : BEHIND_P.keySet()) {
            for (Object[] behind : BEHIND_P.get(name)) {
                for (int p = 0; p <= 7; p++) {
                    holdRefused(name, p, behind);
                }
                for (int p : NEVER_READY) {
                    holdRefused(name, p, behind);
                }
            }
        }
        Check.finish();
    }

    /** No process of it is READY but 3, which made the others what they are. */
    private static JobLayer withNoneReadyBut3() {
        JobLayer x = new JobLayer();
        x.action(0, 3, 2);
        for (int i = 1; i <= 6; i++) {
            x.fork(0);
        }
        x.group(0, 1, 1);
        x.group(0, 2, 2);
        x.pause(2);
        x.end(4, 1);
        x.reap(0, false);
        x.end(5, 2);
        x.pause(6);
        x.pause(0);
        x.signal(3, 1, 4);
        x.signal(3, 2, 4);
        return x;
    }

    private static void holdRefused(String name, int p, Object[] behind) {
        if (p == 3) {
            return;
        }
        Object[] arguments = new Object[behind.length + 1];
        arguments[0] = p;
        System.arraycopy(behind, 0, arguments, 1, behind.length);
        JobLayer x = withNoneReadyBut3();
        String call = Calls.told(name, arguments);
        Check.due(call, Calls.answer(x, name, arguments), REFUSED);
        Check.due(call + " changed something: it", Calls.state(x).toString(), Calls.state(withNoneReadyBut3()).toString());
    }
}
