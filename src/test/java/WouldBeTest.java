/** Promises 21 to 25: what would be, and the checksum. */
public final class WouldBeTest {
    public static void main(String[] args) {
        bestReel();
        pieces();
        single();
        locate();
        digest();
        Check.end(21, 25);
    }

    private static void bestReel() {
        Preformtower x = GlassTest.withGlass();
        x.cable(0, 1, 100);
        x.cable(0, 1, 500);
        Check.due("21: no REELS", -1, x.bestReel(0));
        int[] lengths = {600, 101, 100, 300, 101, 505};
        for (int length : lengths) {
            x.draw(0, length);
        }
        Check.due("21: none of PROOF", -1, x.bestReel(0));
        x.proof(0, 49);
        Check.due("21: PROOF 49", -1, x.bestReel(0));
        x.proof(0, 50);
        Check.due("21: PROOF 50", 0, x.bestReel(0));
        x.proof(3, 60);
        Check.due("21: a shorter one", 3, x.bestReel(0));
        x.proof(2, 60);
        Check.due("21: one that is too short", 3, x.bestReel(0));
        x.proof(4, 60);
        Check.due("21: one just long enough", 4, x.bestReel(0));
        x.proof(1, 60);
        Check.due("21: of several the smallest number", 1, x.bestReel(0));
        Check.due("21: for 505", 0, x.bestReel(1));
        x.proof(5, 60);
        Check.due("21: of just 505", 5, x.bestReel(1));
        x.lay(1, 0, 0);
        Check.due("21: what is in a CABLE is none", 4, x.bestReel(0));
        x.lay(4, 0, 1);
        Check.due("21: nothing is changed", 3, x.bestReel(0));
        Check.refuses(x, "21: CABLE -1", Check.INDEX, () -> x.bestReel(-1));
        Check.refuses(x, "21: CABLE 2", Check.INDEX, () -> x.bestReel(2));
    }

    private static void pieces() {
        Preformtower x = GlassTest.withGlass();
        Check.due("22: no REELS", 0, x.pieces(100));
        x.draw(0, 1000);
        x.draw(0, 399);
        x.draw(0, 250);
        Check.due("22: 10 and 3 and 2", 15, x.pieces(100));
        Check.due("22: each by itself", 2 + 0 + 0, x.pieces(400));
        Check.due("22: just as long", 2 + 1 + 0, x.pieces(399));
        Check.due("22: longer than any", 0, x.pieces(9000));
        x.flaw(0, 99, 10);
        x.proof(0, 50);
        Check.due("22: SCRAP is none", 9 + 3 + 2, x.pieces(100));
        x.proof(2, 50);
        x.cable(0, 1, 100);
        x.lay(2, 0, 0);
        Check.due("22: a fibre is none, its rest is", 9 + 3 + 1, x.pieces(100));
        Check.refuses(x, "22: 99", Check.ARGUMENT, () -> x.pieces(99));
        Check.refuses(x, "22: 9001", Check.ARGUMENT, () -> x.pieces(9001));
        Check.refuses(x, "22: 0", Check.ARGUMENT, () -> x.pieces(0));
    }

    private static void single() {
        Preformtower x = new Preformtower();
        x.preform();
        Check.due("23: no LAYERS", -1, x.single(0));
        x.soot(0, 8, 3);
        // CONTRAST 5 makes 45 / 50; 6 makes 54 / 50.
        Check.due("23: the smallest INDEX", 3, x.single(0));
        x.soot(0, 1, 9);
        Check.due("23: a LAYER outside does not matter", 3, x.single(0));
        x.draw(0, 100);
        Check.due("23: it was drawn from", 3, x.single(0));
        x.preform();
        x.soot(1, 4, 3);
        Check.due("23: INDEX 0", 0, x.single(1));
        x.preform();
        x.soot(2, 20, 9);
        Check.due("23: 81 / 50 is too much for any", -1, x.single(2));
        x.preform();
        x.soot(3, 0, 1);
        Check.due("23: never a CORE", -1, x.single(3));
        x.preform();
        x.soot(4, 20, 7);
        for (int k = 0; k < 7; k++) {
            x.soot(4, 18, 1);
        }
        Check.due("23: behind 8 LAYERS, 19 leaves the inmost alone", 19, x.single(4));
        Check.refuses(x, "23: PREFORM -1", Check.INDEX, () -> x.single(-1));
        Check.refuses(x, "23: PREFORM 5", Check.INDEX, () -> x.single(5));
    }

    private static void locate() {
        Preformtower x = AskedTest.withWay();
        Check.due("24: over at an END", -1, x.locate(0, 0, 0));
        x.dig(2, 299);
        Check.due("24: by two SPLICES", 20299, x.locate(0, 0, 0));
        Check.due("24: from the other END", 20299, x.locate(0, 2, 0));
        Check.due("24: the other way", -1, x.locate(1, 0, 0));
        x.dig(0, 1);
        Check.due("24: the first one on that WAY", 1, x.locate(0, 0, 0));
        Check.due("24: from behind", 20299, x.locate(1, 1, 0));
        x.dig(2, 120);
        Check.due("24: of two the first one from SITE 1", 20120, x.locate(1, 1, 0));
        Check.due("24: of two the first one from SITE 0", 20299, x.locate(0, 2, 0));
        x.bend(1, 50, 5);
        Check.due("24: a BEND is none", 20120, x.locate(1, 1, 0));
        x.mend(0);
        x.mend(2);
        x.splice(0, 2, 0, 0, 0, 0);
        Check.due("24: a RING", -1, x.locate(0, 0, 0));
        Check.refuses(x, "24: CABLE 3", Check.INDEX, () -> x.locate(0, 3, 0));
        Check.refuses(x, "24: CABLE -1", Check.INDEX, () -> x.locate(0, -1, 0));
        Check.refuses(x, "24: no such fibre", Check.INDEX, () -> x.locate(0, 0, 1));
        Check.refuses(x, "24: COLOUR 6", Check.INDEX, () -> x.locate(0, 0, 6));
        Check.refuses(x, "24: the SITE is none of its CABLE", Check.INDEX, () -> x.locate(2, 0, 0));
    }

    private static void digest() {
        Preformtower x = new Preformtower();
        Check.due("25: of a new object", dueDigest(x), x.digest());
        Preformtower y = AskedTest.withWay();
        y.lay(3, 1, 4);
        y.preform();
        y.dig(0, 60);
        y.bend(2, 40, 9);
        y.mend(0);
        y.dig(1, 120);
        y.flaw(4, 70, 15);
        y.proof(4, 20);
        Check.due("25: with something of all", dueDigest(y), y.digest());
        Check.due("25: again", dueDigest(y), y.digest());
        Preformtower z = GlassTest.withGlass();
        z.draw(0, 500);
        z.draw(0, 998);
        Check.due("25: pieces of 500", dueDigest(z), z.digest());
        Check.due("25: without fibres", dueDigest(GlassTest.withGlass()), GlassTest.withGlass().digest());
    }

    /** As the document says it, by asking. */
    static long dueDigest(Preformtower x) {
        long d = 58253;
        for (int what = 0; what <= 10; what++) {
            d = d * 31 + x.many(what);
        }
        for (int preform = 0; preform < x.many(0); preform++) {
            for (int what = 0; what <= 5; what++) {
                d = d * 31 + x.ofPreform(preform, what);
            }
            d = d * 31 + x.single(preform);
        }
        for (int reel = 0; reel < x.many(1); reel++) {
            for (int what = 0; what <= 7; what++) {
                d = d * 31 + x.ofReel(reel, what);
            }
        }
        for (int cable = 0; cable < x.many(5); cable++) {
            for (int what = 0; what <= 6; what++) {
                d = d * 31 + x.ofCable(cable, what);
            }
            d = d * 31 + x.bestReel(cable);
            for (int colour = 0; colour <= 5; colour++) {
                if ((x.ofCable(cable, 3) >> colour & 1) == 1) {
                    d = dueFibre(x, cable, colour, d);
                }
            }
        }
        return d * 31 + x.pieces(500);
    }

    private static long dueFibre(Preformtower x, int cable, int colour, long before) {
        long d = before;
        int first = x.ofCable(cable, 0);
        for (int side = 0; side <= 1; side++) {
            for (int what = 0; what <= 7; what++) {
                d = d * 31 + x.way(x.ofCable(cable, side), cable, colour, what);
            }
        }
        d = d * 31 + x.locate(first, cable, colour);
        for (int event = 0; event <= 1; event++) {
            for (int what = 0; what <= 2; what++) {
                d = d * 31 + x.pulse(first, cable, colour, event, what);
            }
        }
        return d;
    }
}
