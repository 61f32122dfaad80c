import java.util.function.Supplier;

/** Compares answers with those that are due, and counts those that are not. */
final class Check {
    static final Class<? extends RuntimeException> INDEX = IndexOutOfBoundsException.class;
    static final Class<? extends RuntimeException> ARGUMENT = IllegalArgumentException.class;
    static final Class<? extends RuntimeException> STATE = IllegalStateException.class;

    private static int asked = 0;
    private static int wrong = 0;

    private Check() { }

    static void due(String what, long want, long got) {
        asked++;
        if (want != got) {
            wrong(what + " answered " + got + ", due is " + want);
        }
    }

    static void dueHalf(String what, double want, double got) {
        asked++;
        if (want != got) {
            wrong(what + " answered " + got + ", due is " + want);
        }
    }

    /** What throws must be just that class, and must change nothing. */
    static void refuses(Preformtower x, String what, Class<? extends RuntimeException> kind, Supplier<Object> call) {
        asked++;
        long before = x.digest();
        try {
            wrong(what + " answered " + call.get() + ", due is " + kind.getSimpleName());
        } catch (RuntimeException e) {
            if (e.getClass() != kind) {
                wrong(what + " threw " + e + ", due is " + kind.getSimpleName());
            }
        }
        if (x.digest() != before) {
            wrong(what + " threw and changed something");
        }
    }

    static void wrong(String text) {
        wrong++;
        System.out.println(text);
    }

    static void end() {
        System.out.println(asked + " answers looked at, " + wrong + " wrong");
        if (wrong != 0 || asked == 0) {
            System.exit(1);
        }
    }
}
