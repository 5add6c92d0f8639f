/** Counts the answers that are not as due; finish() ends the test with exit code 1 if there was one. */
final class Check {
    interface Call {
        Object run();
    }

    private static int wrong = 0;
    private static int asked = 0;

    private Check() {
    }

    static void due(String call, long got, long want) {
        due(call, String.valueOf(got), String.valueOf(want));
    }

    static void due(String call, String got, String want) {
        asked++;
        if (!got.equals(want)) {
            wrong++;
            System.out.println(call + " answered " + got + ", due is " + want);
        }
    }

    static void illegalState(String call, Call made) {
        thrown(call, made, IllegalStateException.class);
    }

    static void illegalArgument(String call, Call made) {
        thrown(call, made, IllegalArgumentException.class);
    }

    private static void thrown(String call, Call made, Class<? extends RuntimeException> want) {
        String got;
        try {
            got = String.valueOf(made.run());
        } catch (RuntimeException e) {
            got = e.getClass().getSimpleName();
        }
        due(call, got, want.getSimpleName());
    }

    static void finish() {
        System.out.println(asked + " answers looked at, " + wrong + " not as due");
        if (wrong != 0 || asked == 0) {
            System.exit(1);
        }
    }
}
