import java.util.Set;
import java.util.TreeSet;
import java.util.function.Supplier;

/**
 * Compares answers with those that are due, and counts those that are not. What is looked at begins with its promise's
 * number and a colon.
 */
final class Check {
    static final Class<? extends RuntimeException> INDEX = IndexOutOfBoundsException.class;
    static final Class<? extends RuntimeException> ARGUMENT = IllegalArgumentException.class;
    static final Class<? extends RuntimeException> STATE = IllegalStateException.class;

    private static int asked = 0;
    private static int wrong = 0;
    private static final Set<Integer> PROMISES = new TreeSet<>();

    private Check() { }

    private static void ask(String what) {
        asked++;
        int end = what.indexOf(':');
        if (end > 0 && end <= 2 && what.substring(0, end).chars().allMatch(Character::isDigit)) {
            PROMISES.add(Integer.parseInt(what.substring(0, end)));
        }
    }

    static void due(String what, long want, long got) {
        ask(what);
        if (want != got) {
            wrong(what + " answered " + got + ", due is " + want);
        }
    }

    static void dueHalf(String what, double want, double got) {
        ask(what);
        if (want != got) {
            wrong(what + " answered " + got + ", due is " + want);
        }
    }

    /** What throws must be just that class, and must change nothing. */
    static void refuses(Preformtower x, String what, Class<? extends RuntimeException> kind, Supplier<Object> call) {
        ask(what);
        long before = x.digest();
        try {
            wrong(what + " answered " + call.get() + ", due is " + kind.getSimpleName());
        } catch (RuntimeException e) {
            if (e.getClass() != kind) {
                wrong(what + " threw " + e + ", due is " + kind.getSimpleName());
            }
        }
        if (x.digest() != before) {
            wrong(what + " threw and changed something");
        }
    }

    static void wrong(String text) {
        wrong++;
        System.out.println(text);
    }

    /** Ends as wrong if one of these promises was not looked at. */
    static void end(int firstPromise, int lastPromise) {
        for (int promise = firstPromise; promise <= lastPromise; promise++) {
            if (!PROMISES.contains(promise)) {
                wrong("nothing of promise " + promise + " was looked at");
            }
        }
        end();
    }

    static void end() {
        System.out.println(asked + " answers looked at, " + wrong + " wrong");
        if (wrong != 0 || asked == 0) {
            System.exit(1);
        }
    }
}
