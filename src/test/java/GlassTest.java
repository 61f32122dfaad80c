/** Promises 1 to 6: preforms, and the reels drawn from them. */
public final class GlassTest {
    public static void main(String[] args) {
        aNewObject();
        preforms();
        sootAndModes();
        sootWrong();
        draws();
        drawsWrong();
        flaws();
        flawsWrong();
        proofBreaks();
        proofKeepsTheBetterProof();
        proofWrong();
        proofWithTwentyReels();
        Check.end(1, 6);
    }

    /** A PREFORM with 7200 of GLASS and 15 MODES. */
    static Preformtower withGlass() {
        Preformtower x = new Preformtower();
        x.preform();
        x.soot(0, 9, 9);
        x.soot(0, 0, 9);
        return x;
    }

    private static void aNewObject() {
        Preformtower x = new Preformtower();
        for (int what = 0; what <= 10; what++) {
            Check.due("1: many(" + what + ") of a new object", 0, x.many(what));
        }
        Check.refuses(x, "1: ofPreform(0, 0)", Check.INDEX, () -> x.ofPreform(0, 0));
        Preformtower other = withGlass();
        Check.due("1: one object knows nothing of another", 0, x.many(0));
        Check.due("1: the other one has its own", 1, other.many(0));
    }

    private static void preforms() {
        Preformtower x = new Preformtower();
        for (int k = 0; k < 6; k++) {
            Check.due("2: preform()", k, x.preform());
            Check.due("2: its LAYERS", 0, x.ofPreform(k, 0));
        }
        Check.refuses(x, "2: a seventh PREFORM", Check.STATE, () -> x.preform());
        Check.due("2: PREFORMS", 6, x.many(0));
    }

    private static void sootAndModes() {
        Preformtower x = new Preformtower();
        x.preform();
        x.preform();
        Check.due("3: one LAYER alone is no CORE", 0, x.soot(0, 12, 3));
        Check.due("3: 3 * 3 * 3 / 50 + 1", 1, x.soot(0, 9, 2));
        Check.due("3: 9 * 5 * 5 / 50 + 1", 5, x.soot(0, 3, 7));
        Check.due("3: a LAYER as high as CLAD ends the CORE", 0, x.soot(0, 12, 1));
        Check.due("3: the other one has none of it", 0, x.ofPreform(1, 0));
        Check.due("3: least INDEX and THICK", 0, x.soot(1, 0, 1));
        Check.due("3: most INDEX and THICK", 0, x.soot(1, 20, 9));
        Check.due("3: a LAYER below CLAD inside: no CORE", 0, x.soot(1, 5, 9));
        Check.due("3: LAYERS", 3, x.ofPreform(1, 0));

        Preformtower y = new Preformtower();
        y.preform();
        y.soot(0, 10, 5);
        y.soot(0, 2, 1);
        Check.due("3: CLAD above all the others: no CORE", 0, y.soot(0, 19, 4));
        Check.due("3: what lies behind a low LAYER is no CORE: 6 * 25 / 50 + 1", 4, y.soot(0, 4, 4));
        Check.due("3: RADIUS", 5, y.ofPreform(0, 1));
        Check.due("3: CONTRAST", 6, y.ofPreform(0, 2));

        Preformtower v = new Preformtower();
        v.preform();
        for (int index : new int[] {10, 5, 20, 5}) {
            v.soot(0, index, 5);
        }
        Check.due("3: what lies behind a LAYER as high as CLAD is no CORE: RADIUS", 5, v.ofPreform(0, 1));
        Check.due("3: and CONTRAST", 5, v.ofPreform(0, 2));

        Preformtower z = new Preformtower();
        z.preform();
        z.soot(0, 11, 9);
        z.soot(0, 20, 9);
        Check.due("3: the greatest INDEX counts: 10 * 18 * 18 / 50 + 1", 65, z.soot(0, 10, 1));
        Check.due("3: exactly 50 makes one more: 2 * 5 * 5 / 50 + 1", 2, modesOf(2, 5));
        Check.due("3: 49 does not: 1 * 7 * 7 / 50 + 1", 1, modesOf(1, 7));
    }

    private static int modesOf(int contrast, int radius) {
        Preformtower x = new Preformtower();
        x.preform();
        x.soot(0, contrast, radius);
        return x.soot(0, 0, 1);
    }

    private static void sootWrong() {
        Preformtower x = new Preformtower();
        Check.refuses(x, "3: no PREFORM", Check.INDEX, () -> x.soot(0, 21, 0));
        x.preform();
        Check.refuses(x, "3: PREFORM -1", Check.INDEX, () -> x.soot(-1, 5, 5));
        Check.refuses(x, "3: PREFORM 1", Check.INDEX, () -> x.soot(1, 5, 5));
        Check.refuses(x, "3: INDEX -1", Check.ARGUMENT, () -> x.soot(0, -1, 5));
        Check.refuses(x, "3: INDEX 21", Check.ARGUMENT, () -> x.soot(0, 21, 5));
        Check.refuses(x, "3: THICK 0", Check.ARGUMENT, () -> x.soot(0, 5, 0));
        Check.refuses(x, "3: THICK 10", Check.ARGUMENT, () -> x.soot(0, 5, 10));
        for (int k = 0; k < 8; k++) {
            x.soot(0, 20 - k, 1);
        }
        Check.due("3: 8 LAYERS", 8, x.ofPreform(0, 0));
        Check.refuses(x, "3: a ninth LAYER", Check.STATE, () -> x.soot(0, 1, 1));
        Check.refuses(x, "3: a ninth LAYER of a wrong INDEX", Check.ARGUMENT, () -> x.soot(0, 21, 1));
        Preformtower y = withGlass();
        y.draw(0, 100);
        Check.refuses(y, "3: it was drawn from", Check.STATE, () -> y.soot(0, 1, 1));
        y.preform();
        Check.due("3: another one was not", 0, y.soot(1, 1, 1));
    }

    private static void draws() {
        Preformtower x = withGlass();
        Check.due("4: GLASS", 7200, x.ofPreform(0, 5));
        Check.due("4: the first REEL", 0, x.draw(0, 100));
        Check.due("4: the next", 1, x.draw(0, 7100));
        Check.due("4: all GLASS is drawn", 0, x.ofPreform(0, 5));
        Check.refuses(x, "4: nothing is left", Check.STATE, () -> x.draw(0, 100));
        int[] due = {0, 7100, 0, 0, 0, -1, -1, 100};
        for (int what = 0; what <= 7; what++) {
            Check.due("4: ofReel(1, " + what + ")", due[what], x.ofReel(1, what));
        }
        Preformtower y = new Preformtower();
        y.preform();
        y.preform();
        for (int k = 0; k < 7; k++) {
            y.soot(1, 20 - k, 9);
        }
        Check.due("4: the longest one", 0, y.draw(1, 20000));
        Check.due("4: of which PREFORM", 1, y.ofReel(0, 0));
        Check.due("4: what is left", 5200, y.ofPreform(1, 5));
    }

    private static void drawsWrong() {
        Preformtower x = withGlass();
        x.preform();
        Check.refuses(x, "4: PREFORM 2", Check.INDEX, () -> x.draw(2, 99));
        Check.refuses(x, "4: PREFORM -1", Check.INDEX, () -> x.draw(-1, 100));
        Check.refuses(x, "4: too short", Check.ARGUMENT, () -> x.draw(1, 99));
        Check.refuses(x, "4: too long", Check.ARGUMENT, () -> x.draw(0, 20001));
        Check.refuses(x, "4: no LAYERS", Check.STATE, () -> x.draw(1, 100));
        x.soot(1, 9, 9);
        Check.refuses(x, "4: no CORE", Check.STATE, () -> x.draw(1, 100));
        Check.due("4: what threw drew nothing", 0, x.soot(1, 9, 9));
        Check.refuses(x, "4: not so much GLASS", Check.STATE, () -> x.draw(0, 7201));
        for (int k = 0; k < 20; k++) {
            Check.due("4: REEL", k, x.draw(0, 100));
        }
        Check.refuses(x, "4: there are 20", Check.STATE, () -> x.draw(0, 100));
        Check.due("4: GLASS stays", 5200, x.ofPreform(0, 5));
    }

    private static void flaws() {
        Preformtower x = withGlass();
        x.draw(0, 1000);
        Check.due("5: at the last place", 1, x.flaw(0, 999, 99));
        Check.due("5: at the first place", 2, x.flaw(0, 1, 1));
        Check.due("5: between", 3, x.flaw(0, 500, 40));
        Check.due("5: FLAWS", 3, x.ofReel(0, 3));
        Check.due("5: the smallest STRENGTH", 1, x.ofReel(0, 7));
        Check.due("5: below its PROOF is no matter", 1, x.proof(0, 1));
        Check.due("5: one of STRENGTH 1", 4, x.flaw(0, 2, 1));
    }

    private static void flawsWrong() {
        Preformtower x = withGlass();
        x.draw(0, 1000);
        Check.refuses(x, "5: REEL 1", Check.INDEX, () -> x.flaw(1, 0, 0));
        Check.refuses(x, "5: REEL -1", Check.INDEX, () -> x.flaw(-1, 1, 1));
        Check.refuses(x, "5: place 0", Check.ARGUMENT, () -> x.flaw(0, 0, 1));
        Check.refuses(x, "5: place LENGTH", Check.ARGUMENT, () -> x.flaw(0, 1000, 1));
        Check.refuses(x, "5: STRENGTH 0", Check.ARGUMENT, () -> x.flaw(0, 1, 0));
        Check.refuses(x, "5: STRENGTH 100", Check.ARGUMENT, () -> x.flaw(0, 1, 100));
        x.flaw(0, 10, 60);
        Check.refuses(x, "5: one at that place", Check.STATE, () -> x.flaw(0, 10, 70));
        for (int k = 2; k <= 6; k++) {
            Check.due("5: FLAWS", k, x.flaw(0, 100 * k, 60));
        }
        Check.refuses(x, "5: a seventh", Check.STATE, () -> x.flaw(0, 50, 60));
        x.draw(0, 300);
        x.flaw(1, 50, 10);
        x.proof(1, 50);
        Check.due("5: SCRAP", 2, x.ofReel(1, 4));
        Check.refuses(x, "5: of SCRAP", Check.STATE, () -> x.flaw(1, 20, 20));
        Check.refuses(x, "5: of SCRAP at no place of it", Check.ARGUMENT, () -> x.flaw(1, 50, 20));
        x.cable(0, 1, 100);
        x.lay(2, 0, 0);
        Check.refuses(x, "5: in a CABLE", Check.STATE, () -> x.flaw(2, 20, 20));
    }

    private static void proofBreaks() {
        Preformtower x = withGlass();
        x.draw(0, 2600);
        x.draw(0, 500);
        // Told in another order than that of their places.
        x.flaw(0, 1900, 80);
        x.flaw(0, 731, 20);
        x.flaw(0, 631, 59);
        x.flaw(0, 700, 60);
        x.flaw(0, 100, 61);
        x.flaw(0, 830, 1);
        Check.due("6: pieces that are no SCRAP", 3, x.proof(0, 60));
        Check.due("6: REELS", 5, x.many(1));
        Check.due("6: SCRAP", 1, x.many(3));
        reelIs(x, 0, 631, 60, 1, 0, 61);
        reelIs(x, 1, 500, 0, 0, 0, 100);
        reelIs(x, 2, 100, 60, 1, 0, 60);
        reelIs(x, 3, 99, 60, 0, 2, 100);
        reelIs(x, 4, 1770, 60, 1, 0, 80);
        Check.due("6: GLASS stays", 4100, x.ofPreform(0, 5));
        Check.due("6: breaks at the place from its beginning on", 2, x.proof(4, 81));
        Check.due("6: 1900 less 830", 1070, x.ofReel(4, 1));
        Check.due("6: the rest", 700, x.ofReel(5, 1));
        Check.due("6: the PREFORM of the new one", 0, x.ofReel(5, 0));
        Check.due("6: both pieces are SCRAP", 0, x.proof(2, 61));
        Check.due("6: 700 less 631", 69, x.ofReel(2, 1));
        Check.due("6: the first piece is SCRAP", 2, x.ofReel(2, 4));
        Check.due("6: and the other", 31, x.ofReel(6, 1));
    }

    private static void reelIs(Preformtower x, int reel, int length, int proof, int flaws, int where, int strength) {
        Check.due("6: LENGTH of " + reel, length, x.ofReel(reel, 1));
        Check.due("6: PROOF of " + reel, proof, x.ofReel(reel, 2));
        Check.due("6: FLAWS of " + reel, flaws, x.ofReel(reel, 3));
        Check.due("6: where " + reel + " is", where, x.ofReel(reel, 4));
        Check.due("6: smallest STRENGTH of " + reel, strength, x.ofReel(reel, 7));
    }

    private static void proofKeepsTheBetterProof() {
        Preformtower x = withGlass();
        x.draw(0, 400);
        Check.due("6: the hardest PULL breaks none", 1, x.proof(0, 100));
        Check.due("6: PROOF", 100, x.ofReel(0, 2));
        x.flaw(0, 200, 20);
        Check.due("6: a STRENGTH that is the PULL holds", 1, x.proof(0, 20));
        Check.due("6: PROOF before is more", 100, x.ofReel(0, 2));
        Check.due("6: it breaks", 2, x.proof(0, 21));
        Check.due("6: PROOF of the first", 100, x.ofReel(0, 2));
        Check.due("6: PROOF of the other", 100, x.ofReel(1, 2));
        x.flaw(1, 50, 10);
        Check.due("6: scrap with a FLAW", 1, x.proof(1, 1));
        x.flaw(1, 199, 99);
        x.flaw(1, 60, 12);
        Check.due("6: three of it", 1, x.proof(1, 13));
        Check.due("6: FLAW of the last", 1, x.ofReel(3, 3));
        Check.due("6: it is cut into 139 and 1", 1, x.proof(3, 100));
        Check.due("6: the shortest SCRAP", 1, x.ofReel(4, 1));
    }

    private static void proofWrong() {
        Preformtower x = withGlass();
        x.draw(0, 300);
        Check.refuses(x, "6: REEL 1", Check.INDEX, () -> x.proof(1, 0));
        Check.refuses(x, "6: REEL -1", Check.INDEX, () -> x.proof(-1, 1));
        Check.refuses(x, "6: PULL 0", Check.ARGUMENT, () -> x.proof(0, 0));
        Check.refuses(x, "6: PULL 101", Check.ARGUMENT, () -> x.proof(0, 101));
        x.flaw(0, 50, 10);
        x.flaw(0, 120, 20);
        x.flaw(0, 30, 90);
        Check.due("6: two are SCRAP", 1, x.proof(0, 50));
        Check.due("6: FLAWS of SCRAP stay", 1, x.ofReel(0, 3));
        Check.due("6: so does their STRENGTH", 90, x.ofReel(0, 7));
        Check.refuses(x, "6: SCRAP", Check.STATE, () -> x.proof(0, 10));
        x.cable(0, 1, 100);
        x.lay(2, 0, 0);
        Check.refuses(x, "6: in a CABLE", Check.STATE, () -> x.proof(2, 10));
        Check.refuses(x, "6: in a CABLE, of a wrong PULL", Check.ARGUMENT, () -> x.proof(2, 101));
    }

    private static void proofWithTwentyReels() {
        Preformtower x = withGlass();
        x.draw(0, 1000);
        for (int k = 1; k < 18; k++) {
            x.draw(0, 100);
        }
        x.flaw(0, 100, 1);
        x.flaw(0, 200, 2);
        x.flaw(0, 300, 3);
        Check.refuses(x, "6: 21 REELS", Check.STATE, () -> x.proof(0, 4));
        Check.due("6: PROOF stays", 0, x.ofReel(0, 2));
        Check.due("6: 20 REELS", 3, x.proof(0, 3));
        Check.due("6: REELS", 20, x.many(1));
        Check.refuses(x, "6: one more", Check.STATE, () -> x.proof(19, 4));
        Check.due("6: one that holds", 1, x.proof(19, 3));
    }
}
