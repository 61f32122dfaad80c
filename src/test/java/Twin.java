import java.util.ArrayList;
import java.util.List;
import java.util.function.Function;
import java.util.function.Supplier;

/**
 * Two objects made alike, of which one is asked for what it must refuse, or what changes nothing: all that they tell
 * after that must be the same. So what digest() does not tell of (the places of FLAWS, say) is looked at as well.
 */
final class Twin {
    /** An object is promised for 512 calls; what makes it takes less than the others. */
    private static final int MOST_TOLD = 200;

    private final Preformtower x;
    private final List<Object> told = new ArrayList<>();

    private Twin(Preformtower x) {
        this.x = x;
    }

    /** A call of which only the number that a test is about stays open. */
    interface Numbered {
        Object of(Preformtower x, int number);
    }

    static void refuses(String what, Class<? extends RuntimeException> kind, Supplier<Preformtower> made,
            Function<Preformtower, Object> call) {
        Preformtower one = made.get();
        Check.refuses(one, what, kind, () -> call.apply(one));
        compare(what + " threw", one, made.get());
    }

    /** What is asked, or would be, changes nothing. */
    static void onlyTells(String what, Supplier<Preformtower> made, Function<Preformtower, Object> call) {
        Preformtower one = made.get();
        Object first = call.apply(one);
        Check.due(what + " tells the same twice", 1, first.equals(call.apply(one)) ? 1 : 0);
        compare(what, one, made.get());
    }

    private static void compare(String what, Preformtower one, Preformtower other) {
        List<Object> got = new Twin(one).story();
        List<Object> due = new Twin(other).story();
        if (!due.equals(got)) {
            Check.wrong(what + ", and something was changed: " + got + ", due is " + due);
        }
    }

    static void refusesAll(String what, Class<? extends RuntimeException> kind, Supplier<Preformtower> made,
            Numbered call, int... numbers) {
        for (int number : numbers) {
            refuses(what + " " + number, kind, made, x -> call.of(x, number));
        }
    }

    static void letsAll(String what, Supplier<Preformtower> made, Numbered call, int... numbers) {
        for (int number : numbers) {
            try {
                call.of(made.get(), number);
                Check.due(what + " " + number, 0, 0);
            } catch (RuntimeException e) {
                Check.wrong(what + " " + number + " threw " + e + ", due is an answer");
            }
        }
    }

    /** The last number that is let and the first that is refused, on both sides; and the farthest ones. */
    static void range(String what, Class<? extends RuntimeException> kind, Supplier<Preformtower> made,
            int least, int most, Numbered call) {
        letsAll(what, made, call, least, most);
        refusesAll(what, kind, made, call, least - 1, most + 1, Integer.MIN_VALUE, Integer.MAX_VALUE);
    }

    private List<Object> story() {
        told.add(x.digest());
        int cables = x.many(5);
        for (int cable = 0; cable < cables; cable++) {
            tellEvents(cable);
        }
        for (int cable = 0; cable < cables; cable++) {
            partAll(cable);
            tell(x -> x.digest());
            mend(cable);
        }
        for (int reel = 0; reel < x.many(1); reel++) {
            breakAll(reel);
        }
        int preforms = x.many(0);
        for (int preform = 0; preform < preforms; preform++) {
            int it = preform;
            tell(x -> x.soot(it, 1, 1));
        }
        tell(x -> x.digest());
        return told;
    }

    private void tell(Function<Preformtower, Object> call) {
        if (told.size() >= MOST_TOLD) {
            return;
        }
        try {
            told.add(call.apply(x));
        } catch (RuntimeException e) {
            told.add(e.getClass());
        }
    }

    private void tellEvents(int cable) {
        int colours = x.ofCable(cable, 3);
        int first = x.ofCable(cable, 0);
        for (int colour = 0; colour < 6; colour++) {
            for (int k = 0; k < 12 && (colours >> colour & 1) == 1; k++) {
                int it = colour;
                int event = 2 + k / 2;
                int what = k % 2 + 1;
                tell(x -> x.pulse(first, cable, it, event, what));
            }
        }
    }

    private void partAll(int cable) {
        int colours = x.ofCable(cable, 3);
        for (int colour = 0; colour < 6; colour++) {
            for (int side = 0; side <= 1 && (colours >> colour & 1) == 1; side++) {
                int it = colour;
                int site = x.ofCable(cable, side);
                tell(x -> x.part(site, cable, it));
            }
        }
    }

    private void mend(int cable) {
        tell(x -> x.mend(cable));
    }

    /** Breaks it at one FLAW after the other, the weakest first, as far as there is room for the pieces. */
    private void breakAll(int reel) {
        for (int k = 0; k < 6 && x.ofReel(reel, 4) == 0 && x.ofReel(reel, 7) < 100; k++) {
            int pull = x.ofReel(reel, 7) + 1;
            tell(x -> x.proof(reel, pull));
            tell(x -> x.digest());
        }
    }
}
