import java.lang.management.ManagementFactory;

/** All calls of a run live in one room, so asking makes no objects; the dearest asking call is digest(). */
public final class RoomTest {
    public static void main(String[] args) {
        Preformtower x = full();
        Check.due("fibres in the full one", 20, x.many(6));
        long warm = x.digest();
        com.sun.management.ThreadMXBean bean = (com.sun.management.ThreadMXBean) ManagementFactory.getThreadMXBean();
        long before = bean.getCurrentThreadAllocatedBytes();
        for (int k = 0; k < 512; k++) {
            if (x.digest() != warm || x.way(1, 0, 0, 1) < 0 || x.pulse(1, 0, 0, 3, 1) < -2) {
                Check.wrong("an answer changed");
            }
        }
        long bytes = bean.getCurrentThreadAllocatedBytes() - before;
        Check.due("512 rounds of asking made " + bytes + " bytes: few", 1, bytes < 512 * 16 ? 1 : 0);
        Check.end();
    }

    /** All 20 REELS in CABLES, SPLICED to one long WAY, with all FAULTS. */
    static Preformtower full() {
        Preformtower x = new Preformtower();
        for (int k = 0; k < 6; k++) {
            x.preform();
            x.soot(k, 20, 9);
            x.soot(k, 3 * k, 9);
        }
        for (int c = 0; c < 5; c++) {
            x.cable(c % 2, 1 - c % 2, 300);
            for (int f = 1; f <= 4; f++) {
                x.bend(c, 60 * f, 10 * f);
            }
        }
        for (int r = 0; r < 20; r++) {
            x.draw(r % 6, 310);
            x.proof(r, 60);
            x.lay(r, r % 5, r / 5);
        }
        for (int r = 0; r + 1 < 20; r++) {
            x.splice(r % 2, r % 5, r / 5, (r + 1) % 5, (r + 1) / 5, r % 10);
        }
        return x;
    }
}
