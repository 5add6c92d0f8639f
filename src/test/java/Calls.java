import java.lang.reflect.InvocationTargetException;
import java.lang.reflect.Method;
import java.lang.reflect.Modifier;
import java.util.Arrays;
import java.util.HashMap;
import java.util.LinkedHashMap;
import java.util.Map;

/** Calls of the face by name, on the program or on PlainModel. */
final class Calls {
    private static final Map<Class<?>, Map<String, Method>> KNOWN = new HashMap<>();

    private Calls() {
    }

    /** What the call answers, "null" for a key, or throws. and the exception's name. */
    static String answer(Object target, String name, Object... arguments) {
        try {
            return String.valueOf(method(target.getClass(), name).invoke(target, arguments));
        } catch (InvocationTargetException e) {
            return "throws." + e.getCause().getClass().getSimpleName();
        } catch (IllegalAccessException e) {
            throw new AssertionError(e);
        }
    }

    static String told(String name, Object... arguments) {
        String list = Arrays.toString(arguments);
        return name + "(" + list.substring(1, list.length() - 1) + ")";
    }

    static Method method(Class<?> owner, String name) {
        Method found = KNOWN.computeIfAbsent(owner, Calls::openMethods).get(name);
        if (found == null) {
            throw new AssertionError("no call of the name " + name);
        }
        return found;
    }

    private static Map<String, Method> openMethods(Class<?> owner) {
        Map<String, Method> byName = new HashMap<>();
        for (Method m : owner.getDeclaredMethods()) {
            if (!Modifier.isPrivate(m.getModifiers())) {
                byName.put(m.getName(), m);
            }
        }
        return byName;
    }

    /**
     * All that can be asked, by question. What a process or the terminal does not have is not asked for, so
     * that an object which made some hundred calls before stays within the document's 512.
     */
    static Map<String, String> state(Object target) {
        Map<String, String> all = new LinkedHashMap<>();
        for (int k = -5; k <= -1; k++) {
            ask(all, target, "terminal", k);
        }
        int shown = Math.min(64, Integer.parseInt(all.get("terminal(-4)")));
        for (int k = 0; k < shown; k++) {
            ask(all, target, "terminal", k);
        }
        for (int p = 0; p <= 7; p++) {
            if (!ask(all, target, "process", p, 0).equals("-1")) {
                askOfProcess(all, target, p);
            }
        }
        return all;
    }

    private static void askOfProcess(Map<String, String> all, Object target, int p) {
        for (int what = 1; what <= 27; what++) {
            if (what <= 8 || what >= 10 && what <= 15 || what >= 21) {
                ask(all, target, "process", p, what);
            }
        }
        int taken = Integer.parseInt(all.get(told("process", p, 6)));
        for (int k = 0; k < taken; k++) {
            ask(all, target, "taken", p, k);
        }
        int heard = Math.min(16, Integer.parseInt(all.get(told("process", p, 7))));
        for (int k = 0; k < heard; k++) {
            ask(all, target, "heard", p, k);
        }
    }

    private static String ask(Map<String, String> all, Object target, String name, Object... arguments) {
        String answer = answer(target, name, arguments);
        all.put(told(name, arguments), answer);
        return answer;
    }
}
