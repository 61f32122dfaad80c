/** Promises 7 to 13: cables, what is laid into them, and what comes upon them. */
public final class CablesTest {
    public static void main(String[] args) {
        cables();
        cablesWrong();
        lays();
        layKeepsFlawsBehind();
        layKeepsSixFlaws();
        layLosesTheRest();
        laysWrong();
        splices();
        splicesWrong();
        parts();
        digs();
        bends();
        mends();
        Check.end(7, 13);
    }

    /** PREFORMS of 15 and 2 MODES; of each REELS of PROOF 60: 0 of 2000 of the one, 1 of 2000 of the other. */
    static Preformtower withReels() {
        Preformtower x = GlassTest.withGlass();
        x.preform();
        x.soot(1, 2, 5);
        x.soot(1, 0, 9);
        x.draw(0, 2000);
        x.draw(1, 2000);
        x.proof(0, 60);
        x.proof(1, 60);
        return x;
    }

    /** CABLES 0 (sites 0, 1; 100 m), 1 (1, 2; 200 m), 2 (2, 0; 300 m), each with a fibre of COLOUR 0; 1's of other MODES. */
    static Preformtower withRing() {
        Preformtower x = withReels();
        x.cable(0, 1, 100);
        x.cable(1, 2, 200);
        x.cable(2, 0, 300);
        x.lay(0, 0, 0);
        x.lay(1, 1, 0);
        x.lay(2, 2, 0);
        return x;
    }

    private static void cables() {
        Preformtower x = new Preformtower();
        Check.due("7: the shortest", 0, x.cable(5, 0, 100));
        Check.due("7: the longest", 1, x.cable(0, 5, 9000));
        Check.due("7: between the same two", 2, x.cable(0, 5, 101));
        Check.due("7: first SITE", 5, x.ofCable(0, 0));
        Check.due("7: the other one", 0, x.ofCable(0, 1));
        Check.due("7: LENGTH", 9000, x.ofCable(1, 2));
        for (int what = 3; what <= 6; what++) {
            Check.due("7: ofCable(1, " + what + ")", 0, x.ofCable(1, what));
        }
    }

    private static void cablesWrong() {
        Preformtower x = new Preformtower();
        Check.refuses(x, "7: from -1", Check.ARGUMENT, () -> x.cable(-1, 0, 100));
        Check.refuses(x, "7: from 6", Check.ARGUMENT, () -> x.cable(6, 0, 100));
        Check.refuses(x, "7: to -1", Check.ARGUMENT, () -> x.cable(0, -1, 100));
        Check.refuses(x, "7: to 6", Check.ARGUMENT, () -> x.cable(0, 6, 100));
        Check.refuses(x, "7: both the same", Check.ARGUMENT, () -> x.cable(3, 3, 100));
        Check.refuses(x, "7: too short", Check.ARGUMENT, () -> x.cable(0, 1, 99));
        Check.refuses(x, "7: too long", Check.ARGUMENT, () -> x.cable(0, 1, 9001));
        for (int k = 0; k < 5; k++) {
            Check.due("7: CABLE", k, x.cable(k, k + 1, 100));
        }
        Check.refuses(x, "7: a sixth", Check.STATE, () -> x.cable(0, 1, 100));
        Check.refuses(x, "7: a sixth that is too short", Check.ARGUMENT, () -> x.cable(0, 1, 99));
        Check.due("7: CABLES", 5, x.many(5));
    }

    private static void lays() {
        Preformtower x = withReels();
        x.cable(0, 1, 100);
        x.cable(1, 2, 199);
        Check.due("8: the rest", 2, x.lay(1, 0, 5));
        int[] fibre = {1, 101, 60, 0, 1, 0, 5, 100};
        int[] rest = {1, 1899, 60, 0, 0, -1, -1, 100};
        for (int what = 0; what <= 7; what++) {
            Check.due("8: ofReel(1, " + what + ")", fibre[what], x.ofReel(1, what));
            Check.due("8: ofReel(2, " + what + ")", rest[what], x.ofReel(2, what));
        }
        Check.due("8: COLOURS", 32, x.ofCable(0, 3));
        Check.due("8: the rest is laid as well", 3, x.lay(2, 1, 0));
        Check.due("8: 199 and 1", 200, x.ofReel(2, 1));
        Check.due("8: 1899 less 200", 1699, x.ofReel(3, 1));
        Check.due("8: into the same CABLE", 4, x.lay(3, 1, 1));
        Check.due("8: COLOURS of the other", 3, x.ofCable(1, 3));
        Check.due("8: fibres", 3, x.many(6));
    }

    private static void layKeepsFlawsBehind() {
        Preformtower x = withReels();
        x.cable(0, 1, 100);
        x.flaw(0, 101, 10);
        x.flaw(0, 100, 11);
        x.flaw(0, 1999, 80);
        x.flaw(0, 102, 70);
        x.flaw(0, 302, 59);
        Check.due("8: the rest", 2, x.lay(0, 0, 0));
        Check.due("8: no FLAWS in the fibre", 0, x.ofReel(0, 3));
        Check.due("8: those behind that place", 3, x.ofReel(2, 3));
        Check.due("8: the smallest of them", 59, x.ofReel(2, 7));
        Check.due("8: at their places from there on", 2, x.proof(2, 60));
        Check.due("8: 302 less 101", 201, x.ofReel(2, 1));
        Check.due("8: 1999 less 302", 1698, x.ofReel(3, 1));
    }

    private static void layKeepsSixFlaws() {
        Preformtower x = withReels();
        x.cable(0, 1, 100);
        for (int k = 1; k <= 6; k++) {
            x.flaw(0, 200 * k, 60 + k);
        }
        Check.due("8: the rest of six", 2, x.lay(0, 0, 0));
        Check.due("8: all six are behind that place", 6, x.ofReel(2, 3));
        Check.due("8: the first one among them", 61, x.ofReel(2, 7));
        Check.due("8: its one piece before that is SCRAP", 1, x.proof(2, 62));
        Check.due("8: 200 less 101", 99, x.ofReel(2, 1));
    }

    private static void layLosesTheRest() {
        Preformtower x = GlassTest.withGlass();
        x.cable(0, 1, 100);
        x.cable(0, 1, 150);
        int[] lengths = {101, 200, 201, 1000};
        for (int length : lengths) {
            x.draw(0, length);
        }
        for (int k = 0; k < 4; k++) {
            x.proof(k, 50);
        }
        Check.due("8: none is left", -1, x.lay(0, 0, 0));
        Check.due("8: 99 is lost", -1, x.lay(1, 0, 1));
        Check.due("8: as long as the fibre", 101, x.ofReel(1, 1));
        Check.due("8: 100 is kept", 4, x.lay(2, 0, 2));
        Check.due("8: LENGTH of the rest", 100, x.ofReel(4, 1));
        for (int k = 5; k < 20; k++) {
            x.draw(0, 100);
        }
        Check.due("8: there are 20 REELS: it is lost", -1, x.lay(3, 1, 0));
        Check.due("8: 150 and 1", 151, x.ofReel(3, 1));
        Check.due("8: REELS", 20, x.many(1));
        Preformtower y = GlassTest.withGlass();
        y.cable(0, 1, 100);
        for (int k = 0; k < 19; k++) {
            y.draw(0, 300);
        }
        y.proof(18, 50);
        Check.due("8: the twentieth REEL", 19, y.lay(18, 0, 0));
    }

    private static void laysWrong() {
        Preformtower x = withReels();
        x.draw(0, 300);
        x.cable(0, 1, 100);
        x.cable(0, 1, 2000);
        Check.refuses(x, "8: REEL 3", Check.INDEX, () -> x.lay(3, 0, 6));
        Check.refuses(x, "8: REEL -1", Check.INDEX, () -> x.lay(-1, 0, 0));
        Check.refuses(x, "8: CABLE 2", Check.INDEX, () -> x.lay(0, 2, 6));
        Check.refuses(x, "8: CABLE -1", Check.INDEX, () -> x.lay(0, -1, 0));
        Check.refuses(x, "8: COLOUR -1", Check.ARGUMENT, () -> x.lay(0, 0, -1));
        Check.refuses(x, "8: COLOUR 6", Check.ARGUMENT, () -> x.lay(2, 0, 6));
        Check.refuses(x, "8: no PROOF", Check.STATE, () -> x.lay(2, 0, 0));
        x.proof(2, 49);
        Check.refuses(x, "8: PROOF 49", Check.STATE, () -> x.lay(2, 0, 0));
        x.proof(2, 50);
        Check.due("8: PROOF 50", 3, x.lay(2, 0, 0));
        Check.refuses(x, "8: there is that COLOUR", Check.STATE, () -> x.lay(0, 0, 0));
        Check.refuses(x, "8: it is in a CABLE", Check.STATE, () -> x.lay(2, 0, 1));
        Check.refuses(x, "8: 2000 for 2020", Check.STATE, () -> x.lay(0, 1, 0));
        x.flaw(3, 50, 10);
        x.proof(3, 50);
        Check.refuses(x, "8: SCRAP", Check.STATE, () -> x.lay(3, 0, 1));
        Preformtower y = GlassTest.withGlass();
        y.draw(0, 150);
        y.draw(0, 101);
        y.draw(0, 100);
        y.flaw(0, 110, 10);
        y.proof(0, 60);
        y.proof(1, 60);
        y.proof(2, 60);
        y.cable(0, 1, 100);
        Check.refuses(y, "8: 100 for 101", Check.STATE, () -> y.lay(2, 0, 0));
        Check.due("8: just long enough", -1, y.lay(1, 0, 0));
    }

    private static void splices() {
        Preformtower x = withRing();
        // 15 MODES on one side, 2 on the other.
        Check.due("9: 2 and 39", 41, x.splice(1, 0, 0, 1, 0, 0));
        Check.due("9: without the sign, ANGLE 5", 2 + 12 + 39, x.splice(2, 1, 0, 2, 0, 5));
        Check.due("9: the same MODES, ANGLE 9", 42, x.splice(0, 2, 0, 0, 0, 9));
        Check.due("9: SPLICES", 3, x.many(7));
        Check.due("9: LOSSES", 136, x.many(8));
        Preformtower y = withRing();
        y.lay(4, 0, 1);
        Check.due("9: two of a CABLE", 2, y.splice(0, 0, 0, 0, 1, 1));
        Check.due("9: at the other SITE as well", 4, y.splice(1, 0, 1, 0, 0, 2));
        Check.due("9: a WAY over both", 4, y.way(0, 0, 0, 4));
    }

    private static void splicesWrong() {
        Preformtower x = withRing();
        x.lay(4, 0, 3);
        Check.refuses(x, "9: no such CABLE", Check.INDEX, () -> x.splice(1, 3, 0, 1, 0, 10));
        Check.refuses(x, "9: no such other CABLE", Check.INDEX, () -> x.splice(1, 0, 0, 5, 0, 0));
        Check.refuses(x, "9: CABLE -1", Check.INDEX, () -> x.splice(1, -1, 0, 1, 0, 0));
        Check.refuses(x, "9: no such COLOUR", Check.INDEX, () -> x.splice(1, 0, 1, 1, 0, 0));
        Check.refuses(x, "9: no such COLOUR of the other", Check.INDEX, () -> x.splice(1, 0, 0, 1, 1, 10));
        Check.refuses(x, "9: COLOUR -1", Check.INDEX, () -> x.splice(1, 0, -1, 1, 0, 0));
        Check.refuses(x, "9: COLOUR 6", Check.INDEX, () -> x.splice(1, 0, 0, 1, 6, 0));
        Check.refuses(x, "9: the SITE is none of the other CABLE", Check.INDEX, () -> x.splice(0, 0, 0, 1, 0, 0));
        Check.refuses(x, "9: the SITE is none of the first CABLE", Check.INDEX, () -> x.splice(2, 0, 0, 1, 0, 0));
        Check.refuses(x, "9: SITE -1", Check.INDEX, () -> x.splice(-1, 0, 0, 0, 3, 0));
        Check.refuses(x, "9: the same fibre", Check.ARGUMENT, () -> x.splice(0, 0, 0, 0, 0, 0));
        Check.refuses(x, "9: ANGLE -1", Check.ARGUMENT, () -> x.splice(1, 0, 0, 1, 0, -1));
        Check.refuses(x, "9: ANGLE 10", Check.ARGUMENT, () -> x.splice(1, 0, 0, 1, 0, 10));
        x.splice(1, 0, 0, 1, 0, 0);
        Check.refuses(x, "9: the first END is in a SPLICE", Check.STATE, () -> x.splice(1, 0, 0, 0, 3, 0));
        Check.refuses(x, "9: the other END is in a SPLICE", Check.STATE, () -> x.splice(1, 0, 3, 1, 0, 0));
        Check.refuses(x, "9: again", Check.STATE, () -> x.splice(1, 0, 0, 1, 0, 0));
        Check.refuses(x, "9: again, with ANGLE 10", Check.ARGUMENT, () -> x.splice(1, 0, 0, 1, 0, 10));
        Check.due("9: the other ENDS are free", 2, x.splice(0, 0, 0, 0, 3, 0));
    }

    private static void parts() {
        Preformtower x = withRing();
        x.splice(1, 0, 0, 1, 0, 4);
        x.splice(0, 2, 0, 0, 0, 1);
        Check.refuses(x, "10: no such fibre", Check.INDEX, () -> x.part(1, 0, 1));
        Check.refuses(x, "10: no such CABLE", Check.INDEX, () -> x.part(1, 3, 0));
        Check.refuses(x, "10: COLOUR 6", Check.INDEX, () -> x.part(1, 0, 6));
        Check.refuses(x, "10: the SITE is none of its CABLE", Check.INDEX, () -> x.part(2, 0, 0));
        Check.refuses(x, "10: in no SPLICE", Check.STATE, () -> x.part(2, 1, 0));
        Check.due("10: by either END of it", 49, x.part(1, 1, 0));
        Check.due("10: SPLICES", 1, x.many(7));
        Check.due("10: LOSSES", 2, x.many(8));
        Check.refuses(x, "10: it is apart", Check.STATE, () -> x.part(1, 0, 0));
        Check.refuses(x, "10: on both sides", Check.STATE, () -> x.part(1, 1, 0));
        Check.due("10: both are free", 41, x.splice(1, 1, 0, 0, 0, 0));
        Check.due("10: by the one that was named first", 2, x.part(0, 2, 0));
        Check.due("10: and that one", 41, x.part(1, 1, 0));
    }

    private static void digs() {
        Preformtower x = new Preformtower();
        x.cable(0, 1, 100);
        Check.refuses(x, "11: no such CABLE", Check.INDEX, () -> x.dig(1, 0));
        Check.refuses(x, "11: CABLE -1", Check.INDEX, () -> x.dig(-1, 1));
        Check.refuses(x, "11: place 0", Check.ARGUMENT, () -> x.dig(0, 0));
        Check.refuses(x, "11: place LENGTH", Check.ARGUMENT, () -> x.dig(0, 100));
        Check.due("11: the last place", 1, x.dig(0, 99));
        Check.due("11: the first place", 2, x.dig(0, 1));
        Check.refuses(x, "11: one at that place", Check.STATE, () -> x.dig(0, 99));
        x.bend(0, 50, 5);
        Check.refuses(x, "11: a BEND at that place", Check.STATE, () -> x.dig(0, 50));
        Check.due("11: the fourth", 4, x.dig(0, 51));
        Check.refuses(x, "11: a fifth", Check.STATE, () -> x.dig(0, 60));
        Check.refuses(x, "11: a fifth at no place", Check.ARGUMENT, () -> x.dig(0, 100));
        Check.due("11: BREAKS", 3, x.ofCable(0, 4));
        x.mend(0);
        Check.refuses(x, "11: a JOINT at that place", Check.STATE, () -> x.dig(0, 99));
        Check.due("11: the BEND is gone", 4, x.dig(0, 50));
    }

    private static void bends() {
        Preformtower x = new Preformtower();
        x.cable(0, 1, 100);
        Check.refuses(x, "12: no such CABLE", Check.INDEX, () -> x.bend(1, 0, 0));
        Check.refuses(x, "12: CABLE -1", Check.INDEX, () -> x.bend(-1, 1, 1));
        Check.refuses(x, "12: place 0", Check.ARGUMENT, () -> x.bend(0, 0, 1));
        Check.refuses(x, "12: place LENGTH", Check.ARGUMENT, () -> x.bend(0, 100, 1));
        Check.refuses(x, "12: LOSS 0", Check.ARGUMENT, () -> x.bend(0, 1, 0));
        Check.refuses(x, "12: LOSS 201", Check.ARGUMENT, () -> x.bend(0, 1, 201));
        Check.due("12: the last place, the most LOSS", 1, x.bend(0, 99, 200));
        Check.due("12: the first place, the least LOSS", 2, x.bend(0, 1, 1));
        Check.refuses(x, "12: one at that place", Check.STATE, () -> x.bend(0, 1, 1));
        Check.refuses(x, "12: one at that place, of a wrong LOSS", Check.ARGUMENT, () -> x.bend(0, 1, 0));
        x.dig(0, 30);
        Check.refuses(x, "12: a BREAK at that place", Check.STATE, () -> x.bend(0, 30, 1));
        Check.due("12: the fourth", 4, x.bend(0, 31, 1));
        Check.refuses(x, "12: a fifth", Check.STATE, () -> x.bend(0, 60, 1));
        Check.due("12: BENDS", 3, x.ofCable(0, 5));
        Check.due("12: BREAKS", 1, x.ofCable(0, 4));
    }

    private static void mends() {
        Preformtower x = withRing();
        Check.refuses(x, "13: no such CABLE", Check.INDEX, () -> x.mend(3));
        Check.refuses(x, "13: CABLE -1", Check.INDEX, () -> x.mend(-1));
        Check.due("13: nothing to mend", 0, x.mend(0));
        x.bend(1, 150, 20);
        x.dig(1, 100);
        x.bend(1, 50, 10);
        x.dig(1, 40);
        x.dig(0, 50);
        Check.due("13: BREAKS that became JOINTS", 2, x.mend(1));
        Check.due("13: BREAKS", 0, x.ofCable(1, 4));
        Check.due("13: BENDS", 0, x.ofCable(1, 5));
        Check.due("13: JOINTS", 2, x.ofCable(1, 6));
        Check.due("13: FAULTS of all", 3, x.many(9));
        Check.due("13: where a JOINT is", 40, x.pulse(1, 1, 0, 0, 1));
        Check.due("13: its LOSS", 5, x.pulse(1, 1, 0, 0, 2));
        Check.due("13: where the other is", 101, x.pulse(1, 1, 0, 1, 1));
        Check.due("13: a JOINT is no BREAK any more", 0, x.mend(1));
        Check.due("13: JOINTS stay", 2, x.ofCable(1, 6));
        Check.due("13: another CABLE has its own", 1, x.mend(0));
        x.bend(0, 70, 5);
        x.mend(0);
        Check.due("13: where the BEND was is room again", 2, x.bend(0, 70, 5));
    }
}
