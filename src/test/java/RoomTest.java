import java.lang.management.ManagementFactory;

/** All calls of a run live in one room, so no call makes objects, but for an exception; what is made is made at once. */
public final class RoomTest {
    private static final com.sun.management.ThreadMXBean BEAN =
        (com.sun.management.ThreadMXBean) ManagementFactory.getThreadMXBean();

    public static void main(String[] args) {
        asking();
        telling();
        Check.end();
    }

    /** The dearest asking call is digest(). */
    private static void asking() {
        Preformtower x = full();
        Check.due("fibres in the full one", 20, x.many(6));
        long warm = x.digest();
        long before = BEAN.getCurrentThreadAllocatedBytes();
        for (int k = 0; k < 512; k++) {
            if (x.digest() != warm || x.way(1, 0, 0, 1) < 0 || x.pulse(1, 0, 0, 3, 1) < -2) {
                Check.wrong("an answer changed");
            }
        }
        few("512 rounds of asking", BEAN.getCurrentThreadAllocatedBytes() - before, 512 * 16);
    }

    /** What an object costs is what its constructor makes, whatever is told to it then. */
    private static void telling() {
        full();
        allTheOthers();
        int rounds = 50;
        long before = BEAN.getCurrentThreadAllocatedBytes();
        for (int k = 0; k < rounds; k++) {
            new Preformtower().many(0);
            new Preformtower().many(0);
        }
        long made = BEAN.getCurrentThreadAllocatedBytes() - before;
        for (int k = 0; k < rounds; k++) {
            full();
            allTheOthers();
        }
        long all = BEAN.getCurrentThreadAllocatedBytes() - before - made;
        few("what is told to two objects", (all - made) / rounds, 16);
        few("two objects", made / rounds, 40000);
    }

    private static void few(String what, long bytes, long most) {
        Check.due(what + " made " + bytes + " bytes: less than " + most, 1, bytes < most ? 1 : 0);
    }

    /** The calls that full() leaves out. */
    private static void allTheOthers() {
        Preformtower x = new Preformtower();
        x.preform();
        x.soot(0, 20, 9);
        x.soot(0, 0, 9);
        x.draw(0, 7200);
        for (int k = 1; k <= 6; k++) {
            x.flaw(0, 1000 * k, 10 * k);
        }
        x.proof(0, 60);
        x.cable(0, 1, 100);
        x.lay(x.bestReel(0), 0, 0);
        x.lay(x.bestReel(0), 0, 1);
        x.splice(1, 0, 0, 0, 1, 5);
        x.part(1, 0, 1);
        x.dig(0, 50);
        x.locate(0, 0, 0);
        x.mend(0);
        x.decibels(0, 0, 0);
        x.pieces(100);
        x.single(0);
        x.ofPreform(0, 5);
        x.ofReel(0, 7);
        x.ofCable(0, 6);
    }

    /** All 20 REELS in CABLES, SPLICED to one long WAY, with all FAULTS. */
    static Preformtower full() {
        Preformtower x = new Preformtower();
        for (int k = 0; k < 6; k++) {
            x.preform();
            x.soot(k, 20, 9);
            x.soot(k, 3 * k, 9);
        }
        for (int c = 0; c < 5; c++) {
            x.cable(c % 2, 1 - c % 2, 300);
            for (int f = 1; f <= 4; f++) {
                x.bend(c, 60 * f, 10 * f);
            }
        }
        for (int r = 0; r < 20; r++) {
            x.draw(r % 6, 310);
            x.proof(r, 60);
            x.lay(r, r % 5, r / 5);
        }
        for (int r = 0; r + 1 < 20; r++) {
            x.splice(r % 2, r % 5, r / 5, (r + 1) % 5, (r + 1) / 5, r % 10);
        }
        return x;
    }
}
