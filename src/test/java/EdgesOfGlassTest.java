/** Promises 1 to 6 at their edges: a method for each sentence that names one. */
public final class EdgesOfGlassTest {
    private static final Class<? extends RuntimeException> INDEX = Check.INDEX;
    private static final Class<? extends RuntimeException> ARGUMENT = Check.ARGUMENT;
    private static final Class<? extends RuntimeException> STATE = Check.STATE;

    public static void main(String[] args) {
        promise1NothingIsThere();
        promise1NoNumberIsKnown();
        promise1TheFirstOnes();
        promise2SixAndOneMore();
        promise2WithoutLayers();
        promise3Ranges();
        promise3EightLayersAndOneMore();
        promise3DrawnFrom();
        promise3OrderOfExceptions();
        promise3CoreIsAboveClad();
        promise3CoreEndsAtTheFirstThatIsNot();
        promise3ModesAreRoundedDown();
        promise4Ranges();
        promise4NoCore();
        promise4JustSoMuchGlass();
        promise4TwentyReelsAndOneMore();
        promise4OrderOfExceptions();
        promise5Ranges();
        promise5PlacesOfTheShortest();
        promise5SixAndOneMore();
        promise5OneAtAPlace();
        promise5NotInStock();
        promise5OrderOfExceptions();
        promise6Ranges();
        promise6BreaksBelowThePull();
        promise6WithoutFlaws();
        promise6PiecesOf100And99();
        promise6SevenPieces();
        promise6FlawsStayInTheirs();
        promise6FlawsOfScrapStay();
        promise6PiecesAreOfTheSamePreform();
        promise6TheBetterProof();
        promise6TwentyReelsAndOneMore();
        promise6NotInStock();
        promise6OrderOfExceptions();
        Check.end(1, 6);
    }

    /** One PREFORM with the LAYERS that are given, INDEX and THICK of each. */
    static Preformtower layered(int... layers) {
        Preformtower x = new Preformtower();
        x.preform();
        for (int k = 0; k < layers.length; k += 2) {
            x.soot(0, layers[k], layers[k + 1]);
        }
        return x;
    }

    private static Preformtower twoPreforms() {
        Preformtower x = layered(9, 4, 3, 2);
        x.preform();
        return x;
    }

    /** 28800 of GLASS, so that the longest REEL can be drawn. */
    private static Preformtower muchGlass() {
        return layered(20, 9, 19, 9, 18, 9, 17, 9, 16, 9, 15, 9, 14, 9, 13, 9);
    }

    /** As many REELS of 100. */
    static Preformtower reels(int many) {
        Preformtower x = GlassTest.withGlass();
        for (int k = 0; k < many; k++) {
            x.draw(0, 100);
        }
        return x;
    }

    /** One REEL of that LENGTH, with FLAWS, place and STRENGTH of each. */
    static Preformtower flawed(int length, int... flaws) {
        Preformtower x = muchGlass();
        x.draw(0, length);
        for (int k = 0; k < flaws.length; k += 2) {
            x.flaw(0, flaws[k], flaws[k + 1]);
        }
        return x;
    }

    private static void reelIs(String what, Preformtower x, int reel, int length, int proof, int flaws, int where) {
        Check.due(what + ": LENGTH of " + reel, length, x.ofReel(reel, 1));
        Check.due(what + ": PROOF of " + reel, proof, x.ofReel(reel, 2));
        Check.due(what + ": FLAWS of " + reel, flaws, x.ofReel(reel, 3));
        Check.due(what + ": where " + reel + " is", where, x.ofReel(reel, 4));
    }

    // ---- a new object

    private static void promise1NothingIsThere() {
        Preformtower x = new Preformtower();
        for (int what = 0; what <= 10; what++) {
            Check.due("1: nothing of " + what, 0, x.many(what));
        }
        Check.due("1: no pieces", 0, x.pieces(100));
        Check.due("1: its digest()", 6667632718734358541L, x.digest());
    }

    private static void promise1NoNumberIsKnown() {
        int[] numbers = {0, -1};
        Twin.refusesAll("1: soot", INDEX, Preformtower::new, (x, k) -> x.soot(k, 0, 1), numbers);
        Twin.refusesAll("1: draw", INDEX, Preformtower::new, (x, k) -> x.draw(k, 100), numbers);
        Twin.refusesAll("1: flaw", INDEX, Preformtower::new, (x, k) -> x.flaw(k, 1, 1), numbers);
        Twin.refusesAll("1: proof", INDEX, Preformtower::new, (x, k) -> x.proof(k, 50), numbers);
        Twin.refusesAll("1: lay", INDEX, Preformtower::new, (x, k) -> x.lay(k, k, 0), numbers);
        Twin.refusesAll("1: splice", INDEX, Preformtower::new, (x, k) -> x.splice(0, k, 0, k, 1, 0), numbers);
        Twin.refusesAll("1: part", INDEX, Preformtower::new, (x, k) -> x.part(0, k, 0), numbers);
        Twin.refusesAll("1: dig", INDEX, Preformtower::new, (x, k) -> x.dig(k, 1), numbers);
        Twin.refusesAll("1: bend", INDEX, Preformtower::new, (x, k) -> x.bend(k, 1, 1), numbers);
        Twin.refusesAll("1: mend", INDEX, Preformtower::new, (x, k) -> x.mend(k), numbers);
        Twin.refusesAll("1: ofPreform", INDEX, Preformtower::new, (x, k) -> x.ofPreform(k, 0), numbers);
        Twin.refusesAll("1: ofReel", INDEX, Preformtower::new, (x, k) -> x.ofReel(k, 0), numbers);
        Twin.refusesAll("1: ofCable", INDEX, Preformtower::new, (x, k) -> x.ofCable(k, 0), numbers);
        Twin.refusesAll("1: way", INDEX, Preformtower::new, (x, k) -> x.way(0, k, 0, 0), numbers);
        Twin.refusesAll("1: pulse", INDEX, Preformtower::new, (x, k) -> x.pulse(0, k, 0, 0, 0), numbers);
        Twin.refusesAll("1: decibels", INDEX, Preformtower::new, (x, k) -> x.decibels(0, k, 0), numbers);
        Twin.refusesAll("1: bestReel", INDEX, Preformtower::new, (x, k) -> x.bestReel(k), numbers);
        Twin.refusesAll("1: single", INDEX, Preformtower::new, (x, k) -> x.single(k), numbers);
        Twin.refusesAll("1: locate", INDEX, Preformtower::new, (x, k) -> x.locate(0, k, 0), numbers);
    }

    private static void promise1TheFirstOnes() {
        Check.due("1: the first PREFORM", 0, new Preformtower().preform());
        Check.due("1: a CABLE without any PREFORM", 0, new Preformtower().cable(0, 1, 100));
    }

    // ---- preform

    private static Preformtower preforms(int many) {
        Preformtower x = new Preformtower();
        for (int k = 0; k < many; k++) {
            x.preform();
        }
        return x;
    }

    private static void promise2SixAndOneMore() {
        for (int k = 0; k < 6; k++) {
            Check.due("2: the number behind " + k + " of them", k, preforms(k).preform());
        }
        Check.due("2: six", 6, preforms(6).many(0));
        Twin.refuses("2: a seventh", STATE, () -> preforms(6), x -> x.preform());
        Preformtower x = preforms(6);
        Check.due("2: the last one takes SOOT", 0, x.soot(5, 20, 9));
        Check.due("2: the last but one has none of it", 0, x.ofPreform(4, 0));
    }

    private static void promise2WithoutLayers() {
        int[] due = {0, 0, 0, 0, 20, 0};
        for (int what = 0; what <= 5; what++) {
            Check.due("2: ofPreform(0, " + what + ") without LAYERS", due[what], preforms(1).ofPreform(0, what));
        }
        Check.due("2: single() without LAYERS", -1, preforms(1).single(0));
    }

    // ---- soot

    private static void promise3Ranges() {
        Twin.range("3: PREFORM", INDEX, EdgesOfGlassTest::twoPreforms, 0, 1, (x, k) -> x.soot(k, 5, 5));
        Twin.range("3: INDEX", ARGUMENT, EdgesOfGlassTest::twoPreforms, 0, 20, (x, k) -> x.soot(0, k, 5));
        Twin.range("3: THICK", ARGUMENT, EdgesOfGlassTest::twoPreforms, 1, 9, (x, k) -> x.soot(1, 5, k));
    }

    private static void promise3EightLayersAndOneMore() {
        Preformtower x = layered(20, 1, 19, 1, 18, 1, 17, 1, 16, 1, 15, 1, 14, 1);
        Check.due("3: seven LAYERS", 7, x.ofPreform(0, 0));
        Check.due("3: an eighth: 7 * 7 * 7 / 50 + 1", 7, x.soot(0, 13, 1));
        Check.due("3: eight LAYERS", 8, x.ofPreform(0, 0));
        Twin.refuses("3: a ninth", STATE, EdgesOfGlassTest::muchGlass, y -> y.soot(0, 12, 1));
    }

    private static void promise3DrawnFrom() {
        Preformtower x = layered(9, 9, 0, 9);
        Check.due("3: one that was not drawn from", 0, x.soot(0, 9, 1));
        Twin.refuses("3: one that the shortest was drawn from", STATE, () -> reels(1), y -> y.soot(0, 0, 1));
        Twin.refuses("3: it was drawn from, and has 8", STATE, () -> flawed(100), y -> y.soot(0, 0, 1));
        Preformtower z = layered(9, 9, 0, 9);
        Check.refuses(z, "3: more than its GLASS", STATE, () -> z.draw(0, 7201));
        Check.due("3: what was refused drew nothing from it", 1 + 8 * 81 / 50, z.soot(0, 1, 1));
    }

    private static void promise3OrderOfExceptions() {
        Twin.refuses("3: no PREFORM, wrong INDEX and THICK", INDEX, EdgesOfGlassTest::muchGlass, x -> x.soot(1, 21, 0));
        Twin.refuses("3: a ninth of a wrong INDEX", ARGUMENT, EdgesOfGlassTest::muchGlass, x -> x.soot(0, -1, 1));
        Twin.refuses("3: a ninth of a wrong THICK", ARGUMENT, EdgesOfGlassTest::muchGlass, x -> x.soot(0, 0, 10));
        Twin.refuses("3: drawn from, of a wrong INDEX", ARGUMENT, () -> reels(1), x -> x.soot(0, 21, 1));
        Twin.refuses("3: drawn from, of a wrong THICK", ARGUMENT, () -> reels(1), x -> x.soot(0, 0, 0));
        Twin.refuses("3: drawn from, but no such PREFORM", INDEX, () -> reels(1), x -> x.soot(1, 0, 1));
    }

    private static void coreIs(String what, Preformtower x, int radius, int contrast, int modes) {
        Check.due(what + ": RADIUS", radius, x.ofPreform(0, 1));
        Check.due(what + ": CONTRAST", contrast, x.ofPreform(0, 2));
        Check.due(what + ": MODES", modes, x.ofPreform(0, 3));
        Check.due(what + ": SCATTER", 20 + contrast, x.ofPreform(0, 4));
    }

    private static void promise3CoreIsAboveClad() {
        coreIs("3: one LAYER is its own CLAD", layered(20, 9), 0, 0, 0);
        coreIs("3: just as high as CLAD", layered(7, 9, 7, 9), 0, 0, 0);
        coreIs("3: one below CLAD", layered(6, 9, 7, 9), 0, 0, 0);
        coreIs("3: one above CLAD", layered(8, 9, 7, 9), 9, 1, 2);
        coreIs("3: the least of a CORE", layered(1, 1, 0, 1), 1, 1, 1);
        coreIs("3: CLAD 0 and INDEX 0", layered(0, 9, 0, 9), 0, 0, 0);
        coreIs("3: INDEX 20 and CLAD 20", layered(20, 9, 20, 9), 0, 0, 0);
        coreIs("3: INDEX 20 and CLAD 0", layered(20, 1, 0, 1), 1, 20, 1);
    }

    private static void promise3CoreEndsAtTheFirstThatIsNot() {
        coreIs("3: behind one as high as CLAD", layered(9, 2, 5, 3, 20, 4, 5, 1), 2, 4, 1);
        coreIs("3: behind one below CLAD", layered(9, 2, 4, 3, 20, 4, 5, 1), 2, 4, 1);
        coreIs("3: behind one that is one above", layered(9, 2, 6, 3, 20, 4, 5, 1), 9, 15, 25);
        coreIs("3: the inmost one is not above", layered(5, 2, 20, 9, 5, 1), 0, 0, 0);
        coreIs("3: the greatest INDEX is in the middle", layered(6, 1, 17, 1, 6, 1, 5, 1), 3, 12, 3);
    }

    private static void promise3ModesAreRoundedDown() {
        int[][] due = {{1, 7, 1}, {2, 5, 2}, {11, 3, 2}, {4, 5, 3}, {20, 9, 33}};
        for (int[] row : due) {
            Preformtower x = layered(row[0], row[1]);
            Check.due("3: " + row[0] + " * " + row[1] + " * " + row[1] + " / 50 + 1", row[2], x.soot(0, 0, 1));
        }
        Preformtower most = layered(20, 9, 20, 9, 20, 9, 20, 9, 20, 9, 20, 9, 20, 9);
        Check.due("3: 20 * 63 * 63 / 50 + 1, the most MODES", 1588, most.soot(0, 0, 9));
    }

    // ---- draw

    private static void promise4Ranges() {
        Twin.range("4: LENGTH", ARGUMENT, EdgesOfGlassTest::muchGlass, 100, 20000, (x, k) -> x.draw(0, k));
        Twin.range("4: PREFORM", INDEX, EdgesOfGlassTest::threeOfGlass, 0, 2, (x, k) -> x.draw(k, 100));
        Check.due("4: the shortest", 100, flawed(100).ofReel(0, 1));
        Check.due("4: the longest", 20000, flawed(20000).ofReel(0, 1));
        Check.due("4: what is left of the most GLASS", 8800, flawed(20000).ofPreform(0, 5));
    }

    private static Preformtower threeOfGlass() {
        Preformtower x = new Preformtower();
        for (int k = 0; k < 3; k++) {
            x.preform();
            x.soot(k, 5, 1);
            x.soot(k, 0, 1);
        }
        return x;
    }

    private static void promise4NoCore() {
        Twin.refuses("4: no LAYER", STATE, () -> layered(), x -> x.draw(0, 100));
        Twin.refuses("4: one LAYER", STATE, () -> layered(20, 9), x -> x.draw(0, 100));
        Twin.refuses("4: as high as CLAD", STATE, () -> layered(5, 9, 5, 9), x -> x.draw(0, 100));
        Twin.refuses("4: below CLAD", STATE, () -> layered(4, 9, 5, 9), x -> x.draw(0, 100));
        Check.due("4: one above CLAD", 0, layered(6, 9, 5, 9).draw(0, 100));
    }

    private static void promise4JustSoMuchGlass() {
        Check.due("4: all of it", 0, layered(1, 1, 0, 1).draw(0, 800));
        Twin.refuses("4: one more", STATE, () -> layered(1, 1, 0, 1), x -> x.draw(0, 801));
        Twin.refuses("4: 99 are left", STATE, () -> drawn(701), x -> x.draw(0, 100));
        Check.due("4: 100 are left", 1, drawn(700).draw(0, 100));
        Twin.refuses("4: none is left", STATE, () -> drawn(800), x -> x.draw(0, 100));
        Check.due("4: no GLASS", 0, drawn(800).ofPreform(0, 5));
        Check.due("4: 99 of GLASS", 99, drawn(701).ofPreform(0, 5));
    }

    private static Preformtower drawn(int length) {
        Preformtower x = layered(1, 1, 0, 1);
        x.draw(0, length);
        return x;
    }

    private static void promise4TwentyReelsAndOneMore() {
        Check.due("4: the twentieth", 19, reels(19).draw(0, 100));
        Check.due("4: twenty", 20, reels(20).many(1));
        Twin.refuses("4: a twenty-first", STATE, () -> reels(20), x -> x.draw(0, 100));
    }

    private static void promise4OrderOfExceptions() {
        Twin.refuses("4: no PREFORM, wrong LENGTH, 20 REELS", INDEX, () -> reels(20), x -> x.draw(1, 99));
        Twin.refuses("4: no PREFORM, too long", INDEX, () -> reels(20), x -> x.draw(-1, 20001));
        Twin.refuses("4: too short, 20 REELS", ARGUMENT, () -> reels(20), x -> x.draw(0, 99));
        Twin.refuses("4: too long, more than its GLASS", ARGUMENT, () -> reels(1), x -> x.draw(0, 20001));
        Twin.refuses("4: too short, no CORE", ARGUMENT, () -> layered(20, 9), x -> x.draw(0, 99));
        Twin.refuses("4: no CORE and no GLASS", STATE, () -> layered(), x -> x.draw(0, 20000));
    }

    // ---- flaw

    private static Preformtower twoReels() {
        Preformtower x = reels(1);
        x.draw(0, 500);
        return x;
    }

    private static void promise5Ranges() {
        Twin.range("5: REEL", INDEX, EdgesOfGlassTest::twoReels, 0, 1, (x, k) -> x.flaw(k, 50, 50));
        Twin.range("5: place", ARGUMENT, EdgesOfGlassTest::twoReels, 1, 499, (x, k) -> x.flaw(1, k, 50));
        Twin.range("5: place in the shortest", ARGUMENT, EdgesOfGlassTest::twoReels, 1, 99, (x, k) -> x.flaw(0, k, 50));
        Twin.range("5: STRENGTH", ARGUMENT, EdgesOfGlassTest::twoReels, 1, 99, (x, k) -> x.flaw(1, 50, k));
    }

    /** A piece has places of its own; one of 1 has none, one of 2 has one. */
    private static void promise5PlacesOfTheShortest() {
        Twin.range("5: place in the first piece", ARGUMENT, () -> broken(150), 1, 149, (x, k) -> x.flaw(0, k, 50));
        Twin.range("5: place in the last piece", ARGUMENT, () -> broken(150), 1, 349, (x, k) -> x.flaw(1, k, 50));
        Twin.refusesAll("5: a piece of 1 has no place", ARGUMENT, () -> broken(1), (x, k) -> x.flaw(0, k, 50), 0, 1, 2);
        Twin.refusesAll("5: a piece of 2 has just one", STATE, () -> broken(2), (x, k) -> x.flaw(0, k, 50), 1);
        Twin.refusesAll("5: and no other", ARGUMENT, () -> broken(2), (x, k) -> x.flaw(0, k, 50), 0, 2);
    }

    /** A REEL of 500 that broke at that place. */
    private static Preformtower broken(int at) {
        Preformtower x = flawed(500, at, 10);
        x.proof(0, 60);
        return x;
    }

    private static void promise5SixAndOneMore() {
        Check.due("5: the first", 1, flawed(500).flaw(0, 70, 50));
        Check.due("5: the sixth", 6, flawed(500, 10, 1, 20, 2, 30, 3, 40, 4, 50, 5).flaw(0, 60, 6));
        Check.due("5: six", 6, sixFlaws().ofReel(0, 3));
        Twin.refuses("5: a seventh", STATE, EdgesOfGlassTest::sixFlaws, x -> x.flaw(0, 70, 7));
        Twin.refuses("5: a seventh at a place of one", STATE, EdgesOfGlassTest::sixFlaws, x -> x.flaw(0, 60, 7));
        Preformtower x = sixFlaws();
        x.draw(0, 100);
        Check.due("5: another REEL has its own six", 1, x.flaw(1, 10, 1));
    }

    private static Preformtower sixFlaws() {
        return flawed(500, 10, 1, 20, 2, 30, 3, 40, 4, 50, 5, 60, 6);
    }

    private static void promise5OneAtAPlace() {
        Twin.refuses("5: the same place and STRENGTH", STATE, () -> flawed(500, 70, 50), x -> x.flaw(0, 70, 50));
        Twin.refuses("5: the same place, stronger", STATE, () -> flawed(500, 70, 50), x -> x.flaw(0, 70, 99));
        Twin.letsAll("5: the places beside it", () -> flawed(500, 70, 50), (x, k) -> x.flaw(0, k, 50), 69, 71);
        Twin.refusesAll("5: first and last place", STATE, () -> flawed(500, 1, 50, 499, 50),
            (x, k) -> x.flaw(0, k, 1), 1, 499);
        Preformtower x = broken(150);
        Check.due("5: where it broke there is none any more", 1, x.flaw(0, 149, 50));
        Check.due("5: nor at that place of the other piece", 1, x.flaw(1, 150, 50));
    }

    private static void promise5NotInStock() {
        Twin.letsAll("5: a piece of 100 is in STOCK", () -> broken(100), (x, k) -> x.flaw(0, k, 50), 1, 99);
        Twin.refusesAll("5: a piece of 99 is SCRAP", STATE, () -> broken(99), (x, k) -> x.flaw(0, k, 50), 1, 98);
        Twin.refusesAll("5: a fibre", STATE, EdgesOfGlassTest::laid, (x, k) -> x.flaw(0, k, 50), 1, 100);
        Twin.letsAll("5: what is left of it", EdgesOfGlassTest::laid, (x, k) -> x.flaw(1, k, 50), 1, 398);
    }

    /** A REEL of 500 of which 101 are a fibre; the rest is REEL 1. */
    private static Preformtower laid() {
        Preformtower x = flawed(500);
        x.proof(0, 50);
        x.cable(0, 1, 100);
        x.lay(0, 0, 0);
        return x;
    }

    private static void promise5OrderOfExceptions() {
        Twin.refuses("5: no REEL, wrong place and STRENGTH", INDEX, EdgesOfGlassTest::sixFlaws, x -> x.flaw(1, 0, 0));
        Twin.refuses("5: a seventh at no place", ARGUMENT, EdgesOfGlassTest::sixFlaws, x -> x.flaw(0, 500, 7));
        Twin.refuses("5: a seventh of STRENGTH 100", ARGUMENT, EdgesOfGlassTest::sixFlaws, x -> x.flaw(0, 70, 100));
        Twin.refuses("5: the same place, STRENGTH 0", ARGUMENT, EdgesOfGlassTest::sixFlaws, x -> x.flaw(0, 60, 0));
        Twin.refuses("5: a fibre, at its LENGTH", ARGUMENT, EdgesOfGlassTest::laid, x -> x.flaw(0, 101, 50));
        Twin.refuses("5: a fibre, STRENGTH 100", ARGUMENT, EdgesOfGlassTest::laid, x -> x.flaw(0, 100, 100));
        Twin.refuses("5: SCRAP, at its LENGTH", ARGUMENT, () -> broken(99), x -> x.flaw(0, 99, 50));
    }

    // ---- proof

    private static void promise6Ranges() {
        Twin.range("6: REEL", INDEX, EdgesOfGlassTest::twoReels, 0, 1, (x, k) -> x.proof(k, 50));
        Twin.range("6: PULL", ARGUMENT, EdgesOfGlassTest::twoReels, 1, 100, (x, k) -> x.proof(0, k));
    }

    private static void promise6BreaksBelowThePull() {
        int[][] due = {{1, 1, 1}, {1, 2, 2}, {50, 49, 1}, {50, 50, 1}, {50, 51, 2}, {99, 99, 1}, {99, 100, 2}};
        for (int[] row : due) {
            Preformtower x = flawed(500, 250, row[0]);
            String what = "6: STRENGTH " + row[0] + ", PULL " + row[1];
            Check.due(what, row[2], x.proof(0, row[1]));
            Check.due(what + ": REELS", row[2], x.many(1));
            Check.due(what + ": FLAWS", 2 - row[2], x.ofReel(0, 3));
            Check.due(what + ": LENGTH", row[2] == 2 ? 250 : 500, x.ofReel(0, 1));
        }
    }

    private static void promise6WithoutFlaws() {
        Preformtower x = flawed(100);
        Check.due("6: no FLAW, the hardest PULL", 1, x.proof(0, 100));
        reelIs("6: no FLAW", x, 0, 100, 100, 0, 0);
        Check.due("6: no FLAW, no new REEL", 1, x.many(1));
    }

    private static void promise6PiecesOf100And99() {
        Preformtower x = flawed(400, 100, 10, 200, 10, 300, 10);
        Check.due("6: four pieces of 100", 4, x.proof(0, 60));
        for (int k = 0; k < 4; k++) {
            reelIs("6: a piece of 100", x, k, 100, 60, 0, 0);
        }
        Preformtower y = flawed(399, 99, 10, 200, 10, 299, 10);
        Check.due("6: 99, 101, 99 and 100", 2, y.proof(0, 60));
        reelIs("6: the first one of 99", y, 0, 99, 60, 0, 2);
        reelIs("6: of 101", y, 1, 101, 60, 0, 0);
        reelIs("6: the middle one of 99", y, 2, 99, 60, 0, 2);
        reelIs("6: the last one of 100", y, 3, 100, 60, 0, 0);
        Preformtower z = flawed(199, 100, 10);
        Check.due("6: 100 and 99", 1, z.proof(0, 60));
        reelIs("6: the first one of 100", z, 0, 100, 60, 0, 0);
        reelIs("6: the last one of 99", z, 1, 99, 60, 0, 2);
        Preformtower v = flawed(100, 1, 10);
        Check.due("6: 1 and 99: none that is no SCRAP", 0, v.proof(0, 60));
        reelIs("6: the shortest piece", v, 0, 1, 60, 0, 2);
        Check.due("6: both are SCRAP", 2, v.many(3));
        Preformtower w = flawed(100, 99, 10);
        Check.due("6: 99 and 1: none that is no SCRAP", 0, w.proof(0, 60));
        reelIs("6: the shortest last piece", w, 1, 1, 60, 0, 2);
    }

    private static void promise6SevenPieces() {
        Preformtower x = flawed(2800, 2100, 5, 100, 5, 1500, 5, 300, 5, 1000, 5, 600, 5);
        x.draw(0, 777);
        Check.due("6: six FLAWS, seven pieces", 7, x.proof(0, 6));
        int[] lengths = {100, 777, 200, 300, 400, 500, 600, 700};
        for (int k = 0; k < lengths.length; k++) {
            Check.due("6: the order of the pieces, REEL " + k, lengths[k], x.ofReel(k, 1));
            Check.due("6: the PREFORM of REEL " + k, 0, x.ofReel(k, 0));
        }
        Check.due("6: REELS", 8, x.many(1));
        Check.due("6: the other one was not PROOFED", 0, x.ofReel(1, 2));
        Check.due("6: GLASS stays", 28800 - 2800 - 777, x.ofPreform(0, 5));
    }

    private static void promise6FlawsStayInTheirs() {
        Preformtower x = flawed(600, 199, 80, 200, 10, 201, 81, 399, 82, 400, 10, 401, 83);
        Check.due("6: three pieces", 3, x.proof(0, 60));
        reelIs("6: one before the first break", x, 0, 200, 60, 1, 0);
        reelIs("6: one behind it, one before the next", x, 1, 200, 60, 2, 0);
        reelIs("6: one behind the last break", x, 2, 200, 60, 1, 0);
        Check.due("6: STRENGTH in the first", 80, x.ofReel(0, 7));
        Check.due("6: STRENGTH in the second", 81, x.ofReel(1, 7));
        Check.due("6: STRENGTH in the third", 83, x.ofReel(2, 7));
        Check.due("6: the second breaks at 1 and 199", 1, x.proof(1, 100));
        Check.due("6: from its beginning to 1", 1, x.ofReel(1, 1));
        Check.due("6: from 1 to 199", 198, x.ofReel(3, 1));
        Check.due("6: from 199 to its end", 1, x.ofReel(4, 1));
        Check.due("6: the third breaks at 1", 1, x.proof(2, 100));
        Check.due("6: from 1 on", 199, x.ofReel(5, 1));
        Check.due("6: the first breaks at 199", 1, x.proof(0, 100));
        Check.due("6: up to 199", 199, x.ofReel(0, 1));
    }

    private static void promise6FlawsOfScrapStay() {
        Preformtower x = flawed(298, 1, 80, 98, 70, 99, 10, 100, 60, 198, 90, 199, 10);
        Check.due("6: 99, 100 and 99", 1, x.proof(0, 60));
        reelIs("6: the first, SCRAP", x, 0, 99, 60, 2, 2);
        reelIs("6: the second", x, 1, 100, 60, 2, 0);
        reelIs("6: the third, SCRAP without any", x, 2, 99, 60, 0, 2);
        Check.due("6: the weaker one of SCRAP", 70, x.ofReel(0, 7));
        Check.due("6: the weaker one of the second", 60, x.ofReel(1, 7));
    }

    private static void promise6PiecesAreOfTheSamePreform() {
        Preformtower x = twoPreforms();
        x.soot(1, 20, 9);
        x.soot(1, 0, 9);
        x.draw(1, 500);
        x.flaw(0, 200, 10);
        Check.due("6: of PREFORM 1", 2, x.proof(0, 60));
        Check.due("6: PREFORM of the first piece", 1, x.ofReel(0, 0));
        Check.due("6: PREFORM of the other", 1, x.ofReel(1, 0));
    }

    private static void promise6TheBetterProof() {
        int[][] due = {{60, 59, 60}, {60, 60, 60}, {60, 61, 61}, {100, 1, 100}, {1, 100, 100}};
        for (int[] row : due) {
            Preformtower x = flawed(500);
            x.proof(0, row[0]);
            x.proof(0, row[1]);
            Check.due("6: PROOF " + row[0] + ", then a PULL of " + row[1], row[2], x.ofReel(0, 2));
        }
        Preformtower x = flawed(500);
        x.proof(0, 80);
        x.flaw(0, 200, 10);
        Check.due("6: a FLAW told later breaks", 2, x.proof(0, 20));
        reelIs("6: PROOF before was more", x, 0, 200, 80, 0, 0);
        reelIs("6: for the other piece too", x, 1, 300, 80, 0, 0);
    }

    /** As many REELS, the first one of 2000 with six FLAWS of STRENGTH 10 to 60. */
    private static Preformtower reelsAndFlaws(int many) {
        Preformtower x = flawed(2000, 200, 10, 400, 20, 600, 30, 800, 40, 1000, 50, 1200, 60);
        for (int k = 1; k < many; k++) {
            x.draw(0, 100);
        }
        return x;
    }

    private static void promise6TwentyReelsAndOneMore() {
        Preformtower x = reelsAndFlaws(14);
        Check.due("6: 14 and 6 are 20", 7, x.proof(0, 100));
        Check.due("6: twenty", 20, x.many(1));
        Check.due("6: the last one", 800, x.ofReel(19, 1));
        Twin.refuses("6: 15 and 6 are 21", STATE, () -> reelsAndFlaws(15), y -> y.proof(0, 100));
        Check.due("6: 15 and 5 are 20", 6, reelsAndFlaws(15).proof(0, 60));
        Twin.refuses("6: 20 and 1 are 21", STATE, () -> reelsAndFlaws(20), y -> y.proof(0, 11));
        Preformtower z = reelsAndFlaws(20);
        Check.due("6: 20 and none", 1, z.proof(0, 10));
        Check.due("6: its PROOF then", 10, z.ofReel(0, 2));
    }

    private static void promise6NotInStock() {
        Twin.refusesAll("6: SCRAP of 99", STATE, () -> broken(99), (x, k) -> x.proof(0, k), 1, 100);
        Check.due("6: STOCK of 100", 1, broken(100).proof(0, 100));
        Twin.refusesAll("6: a fibre", STATE, EdgesOfGlassTest::laid, (x, k) -> x.proof(0, k), 1, 100);
        Check.due("6: what is left of it", 1, laid().proof(1, 100));
    }

    private static void promise6OrderOfExceptions() {
        Twin.refuses("6: no REEL, PULL 0", INDEX, () -> reelsAndFlaws(20), x -> x.proof(20, 0));
        Twin.refuses("6: no REEL, PULL 101", INDEX, () -> broken(99), x -> x.proof(-1, 101));
        Twin.refusesAll("6: 21 REELS, and PULL", ARGUMENT, () -> reelsAndFlaws(20), (x, k) -> x.proof(0, k), 0, 101);
        Twin.refusesAll("6: SCRAP, and PULL", ARGUMENT, () -> broken(99), (x, k) -> x.proof(0, k), 0, 101);
        Twin.refusesAll("6: a fibre, and PULL", ARGUMENT, EdgesOfGlassTest::laid, (x, k) -> x.proof(0, k), 0, 101);
    }
}
