import java.math.BigInteger;
import java.util.function.Supplier;

/** Promises 21 to 25 at their edges: a method for each sentence that names one. */
public final class EdgesOfWouldBeTest {
    private static final Class<? extends RuntimeException> INDEX = Check.INDEX;
    private static final Class<? extends RuntimeException> ARGUMENT = Check.ARGUMENT;
    private static final int NONE = -1;

    public static void main(String[] args) {
        promise21Ranges();
        promise21WithoutOne();
        promise21ByProofAndLength();
        promise21TheSmallestNumberOfSeveral();
        promise21WhateverTheColours();
        promise22Ranges();
        promise22IsRoundedDown();
        promise22OfStockAlone();
        promise21And22OfTwentyReels();
        promise23Ranges();
        promise23WithoutOne();
        promise23TheSmallestIndex();
        promise23WhateverSection1DoesNotLet();
        promise24Ranges();
        promise24AtAnEndOrARing();
        promise24TheFirstAndTheLastPlace();
        promise24TheFirstBreakThatComes();
        promise25OfNothing();
        promise25WrapsAround();
        promise25OfSomethingOfEach();
        promise25PiecesOf500();
        promise25ColourByColour();
        promise25OfAllThatThereCanBe();
        promise25OfWhatWasRefused();
        promise21To25ChangeNothing();
        Check.end(21, 25);
    }

    // ---- bestReel

    /** A CABLE of 200, in which a fibre is 202 long, and REELS: LENGTH and PROOF of each. */
    private static Preformtower reels(int... given) {
        Preformtower x = EdgesOfGlassTest.layered(20, 9, 19, 9, 18, 9, 17, 9);
        x.cable(0, 1, 200);
        for (int k = 0; k < given.length; k += 2) {
            int reel = x.draw(0, given[k]);
            if (given[k + 1] > 0) {
                x.proof(reel, given[k + 1]);
            }
        }
        return x;
    }

    private static void promise21Ranges() {
        Twin.range("21: CABLE", INDEX, () -> EdgesOfCablesTest.cables(1), 0, 0, (x, k) -> x.bestReel(k));
        Twin.range("21: CABLE", INDEX, () -> EdgesOfCablesTest.cables(5), 0, 4, (x, k) -> x.bestReel(k));
    }

    private static void promise21WithoutOne() {
        Check.due("21: no REEL", NONE, reels().bestReel(0));
        Check.due("21: no PROOF", NONE, reels(500, 0).bestReel(0));
        Check.due("21: PROOF 49", NONE, reels(500, 49).bestReel(0));
        Check.due("21: 201 for 202", NONE, reels(201, 60).bestReel(0));
        Preformtower x = reels(202, 60);
        x.lay(0, 0, 0);
        Check.due("21: it is a fibre", NONE, x.bestReel(0));
        Preformtower y = new Preformtower();
        y.cable(0, 1, 100);
        Check.due("21: no PREFORM", NONE, y.bestReel(0));
    }

    private static void promise21ByProofAndLength() {
        Check.due("21: PROOF 50", 0, reels(500, 50).bestReel(0));
        Check.due("21: 202 for 202", 0, reels(202, 60).bestReel(0));
        Check.due("21: the shortest, first", 0, reels(202, 60, 203, 60).bestReel(0));
        Check.due("21: the shortest, last", 1, reels(203, 60, 202, 60).bestReel(0));
        Check.due("21: but not too short", 0, reels(203, 60, 201, 60).bestReel(0));
        Check.due("21: nor of PROOF 49", 0, reels(203, 50, 202, 49).bestReel(0));
        Check.due("21: PROOF above 50 is no matter", 1, reels(203, 100, 202, 50).bestReel(0));
    }

    private static void promise21TheSmallestNumberOfSeveral() {
        Check.due("21: two as short", 0, reels(300, 60, 300, 60).bestReel(0));
        Check.due("21: three as short, behind a longer one", 1, reels(301, 60, 300, 60, 300, 70, 300, 50).bestReel(0));
        Check.due("21: the first one has PROOF 49", 1, reels(300, 49, 300, 50, 300, 60).bestReel(0));
    }

    private static void promise21WhateverTheColours() {
        Preformtower x = EdgesOfCablesTest.sixColours();
        Check.due("21: all COLOURS are there", 7, x.bestReel(0));
        x.lay(6, x.cable(0, 1, 150), 0);
        Check.due("21: still, the rest of 149 is the shortest", 13, x.bestReel(0));
    }

    // ---- pieces

    private static void promise22Ranges() {
        Twin.range("22: length", ARGUMENT, Preformtower::new, 100, 9000, (x, k) -> x.pieces(k));
        Twin.range("22: length", ARGUMENT, () -> reels(500, 0), 100, 9000, (x, k) -> x.pieces(k));
        Twin.refusesAll("22: length", ARGUMENT, () -> reels(500, 0), (x, k) -> x.pieces(k), 0, -1, -100);
    }

    private static void promise22IsRoundedDown() {
        int[][] due = {{499, 1, 100, 4}, {500, 1, 100, 5}, {599, 1, 100, 5}, {199, 1, 100, 1}, {200, 1, 100, 2},
            {249, 2, 125, 2}, {250, 2, 125, 4}, {8999, 1, 9000, 0}, {9000, 1, 9000, 1}, {100, 1, 101, 0}};
        for (int[] row : due) {
            Preformtower x = reels();
            for (int k = 0; k < row[1]; k++) {
                x.draw(0, row[0]);
            }
            Check.due("22: " + row[1] + " of " + row[0] + ", by " + row[2], row[3], x.pieces(row[2]));
        }
        Check.due("22: the longest by the shortest", 140, reels(14000, 0).pieces(100));
        Check.due("22: no REEL", 0, reels().pieces(100));
    }

    private static void promise22OfStockAlone() {
        Preformtower x = EdgesOfGlassTest.flawed(199, 99, 10);
        x.proof(0, 60);
        Check.due("22: SCRAP of 99 and a piece of 100", 1, x.pieces(100));
        Preformtower y = reels(302, 60);
        y.lay(0, 0, 0);
        Check.due("22: a fibre of 202 and a rest of 100", 1, y.pieces(100));
        Preformtower z = reels(301, 60);
        z.lay(0, 0, 0);
        Check.due("22: a fibre of 202, the rest is lost", 0, z.pieces(100));
        Check.due("22: of any PROOF", 2, reels(100, 0, 100, 100).pieces(100));
    }

    private static Preformtower twentyReels() {
        Preformtower x = reels();
        for (int k = 0; k < 20; k++) {
            x.proof(x.draw(0, k == 19 ? 202 : 400), 60);
        }
        return x;
    }

    private static void promise21And22OfTwentyReels() {
        Check.due("21: the last one of twenty", 19, twentyReels().bestReel(0));
        Check.due("22: of twenty", 19 * 4 + 2, twentyReels().pieces(100));
        Check.due("22: of twenty, 202 is one of 202", 19 + 1, twentyReels().pieces(202));
    }

    // ---- single

    private static void promise23Ranges() {
        Twin.range("23: PREFORM", INDEX, () -> EdgesOfGlassTest.layered(), 0, 0, (x, k) -> x.single(k));
        Twin.range("23: PREFORM", INDEX, EdgesOfWouldBeTest::sixPreforms, 0, 5, (x, k) -> x.single(k));
    }

    private static Preformtower sixPreforms() {
        Preformtower x = EdgesOfGlassTest.layered(20, 1);
        for (int k = 0; k < 5; k++) {
            x.preform();
        }
        return x;
    }

    private static void singleIs(String name, int due, int... layers) {
        Check.due("23: " + name, due, EdgesOfGlassTest.layered(layers).single(0));
    }

    private static void promise23WithoutOne() {
        singleIs("no LAYER", NONE);
        singleIs("the inmost INDEX is 0: never a CORE", NONE, 0, 9, 20, 9);
        singleIs("always too many MODES: 1 * 8 * 8 / 50", NONE, 20, 8);
        singleIs("RADIUS 8 of two: the outer one as high", NONE, 20, 4, 20, 4);
    }

    private static void promise23TheSmallestIndex() {
        singleIs("INDEX 1 over 0", 0, 1, 1);
        singleIs("1 * 7 * 7 / 50", 19, 20, 7);
        singleIs("49 makes none more, 50 does: 2 * 5 * 5", 19, 20, 5);
        singleIs("12 * 2 * 2 are 48, 13 * 2 * 2 are 52", 8, 20, 2);
        singleIs("20 * 1 * 1 with INDEX 0", 0, 20, 1);
        singleIs("5 * 3 * 3 are 45, 6 * 3 * 3 are 54", 0, 5, 3);
        singleIs("6 * 3 * 3 are 54: one above 0", 1, 6, 3);
        singleIs("the outer LAYER falls out of the CORE", 10, 12, 3, 10, 9);
        singleIs("the outer LAYER stays in the CORE: 12 * 2 * 2 are 48", 2, 14, 1, 10, 1, 0, 9);
        singleIs("it does so up to its INDEX less 1: 5 * 3 * 3 are 45", 9, 14, 1, 10, 2);
    }

    private static void promise23WhateverSection1DoesNotLet() {
        singleIs("eight LAYERS", 19, 20, 7, 19, 1, 19, 1, 19, 1, 19, 1, 19, 1, 19, 1, 19, 1);
        Preformtower x = EdgesOfGlassTest.layered(12, 3, 0, 9);
        x.draw(0, 100);
        Check.due("23: it was drawn from", 7, x.single(0));
        Check.due("23: nothing is laid on it", 2, x.ofPreform(0, 0));
        Preformtower y = EdgesOfGlassTest.layered(12, 3);
        Check.due("23: as it would be, so it is", 1, y.soot(0, y.single(0), 9));
    }

    // ---- locate

    private static void promise24Ranges() {
        Supplier<Preformtower> made = EdgesOfCablesTest::lines;
        Twin.range("24: CABLE", INDEX, made, 0, 2, (x, k) -> x.locate(1, k, 0));
        Twin.range("24: COLOUR", INDEX, made, 0, 5, (x, k) -> x.locate(1, 0, k));
        Twin.letsAll("24: SITE", made, (x, k) -> x.locate(k, 0, 0), 0, 1);
        Twin.refusesAll("24: SITE", INDEX, made, (x, k) -> x.locate(k, 0, 0),
            -1, 2, 3, 5, 6, Integer.MIN_VALUE, Integer.MAX_VALUE);
        Twin.refusesAll("24: no fibre of COLOUR", INDEX, made, (x, k) -> x.locate(1, 0, k), 1, 4);
        Twin.refuses("24: no fibre at all", INDEX, () -> EdgesOfCablesTest.cables(1), x -> x.locate(0, 0, 0));
    }

    private static void promise24AtAnEndOrARing() {
        Preformtower x = EdgesOfCablesTest.lines();
        Check.due("24: no FAULT", NONE, x.locate(0, 0, 0));
        x.bend(0, 50, 9);
        Check.due("24: a BEND", NONE, x.locate(0, 0, 0));
        x.dig(0, 20);
        Check.due("24: a BREAK", 20, x.locate(0, 0, 0));
        x.mend(0);
        Check.due("24: a JOINT", NONE, x.locate(0, 0, 0));
        x.splice(0, 0, 0, 0, 5, 0);
        x.splice(1, 0, 0, 0, 5, 0);
        Check.due("24: a RING", NONE, x.locate(0, 0, 0));
        x.dig(0, 21);
        Check.due("24: a BREAK in it", 21, x.locate(0, 0, 5));
    }

    private static void promise24TheFirstAndTheLastPlace() {
        for (int at : new int[] {1, 99, 100, 8998, 8999}) {
            Preformtower x = EdgesOfCablesTest.shortAndLong();
            x.dig(0, at);
            Check.due("24: at " + at, at, x.locate(0, 0, 0));
            Check.due("24: from the other SITE the place is the same", at, x.locate(1, 0, 0));
            x.splice(1, 0, 0, 1, 0, 0);
            Check.due("24: over a SPLICE", at, x.locate(2, 1, 0));
        }
        Preformtower y = EdgesOfGlassTest.layered(9, 9, 0, 9, 0, 9);
        for (int k = 0; k < 5; k++) {
            y.cable(4, 5, 9000);
        }
        y.proof(y.draw(0, 9090), 60);
        y.lay(0, 4, 5);
        y.dig(4, 8999);
        Check.due("24: the last place of the last CABLE", 48999, y.locate(4, 4, 5));
    }

    private static void promise24TheFirstBreakThatComes() {
        Preformtower x = EdgesOfCablesTest.lines();
        x.splice(1, 0, 0, 1, 0, 0);
        x.dig(1, 1);
        Check.due("24: just behind a SPLICE", 10001, x.locate(0, 0, 0));
        x.dig(0, 99);
        Check.due("24: just before it", 99, x.locate(0, 0, 0));
        x.dig(0, 98);
        Check.due("24: one before that", 98, x.locate(0, 0, 0));
        Check.due("24: from behind", 99, x.locate(1, 0, 0));
        Check.due("24: of another COLOUR", 98, x.locate(0, 0, 5));
        Check.due("24: not in another CABLE", NONE, x.locate(0, 2, 0));
    }

    // ---- digest

    /** The d of the numbers, as one that never wraps, and only then cut down to 64 bits. */
    private static BigInteger unwrapped(int... numbers) {
        BigInteger d = BigInteger.valueOf(58253);
        for (int v : numbers) {
            d = d.multiply(BigInteger.valueOf(31)).add(BigInteger.valueOf(v));
        }
        return d;
    }

    private static void digestIs(String name, Preformtower x, int... numbers) {
        BigInteger d = unwrapped(numbers);
        Check.due("25: " + name, d.longValue(), x.digest());
        Check.due("25: " + name + " is above what 64 bits hold", 1, d.bitLength() > 63 ? 1 : 0);
    }

    private static void promise25OfNothing() {
        Check.due("25: a new object", 6667632718734358541L, new Preformtower().digest());
        digestIs("a new object, by its numbers", new Preformtower(), 0, 0, 0, 0, 0, 0, 0, 0, 0, 0, 0, 0);
    }

    /** Of some d wraps to below 0, of others to above it. */
    private static void promise25WrapsAround() {
        long[] due = {6667632718734358541L, -4978005407383631775L, -6630407661356145941L, 3815641763883000323L,
            6239874853266795721L, 5839898712077880485L, 5567401239127209383L};
        for (int preforms = 0; preforms <= 6; preforms++) {
            Preformtower x = new Preformtower();
            int[] numbers = new int[12 + 7 * preforms];
            numbers[0] = preforms;
            for (int k = 0; k < preforms; k++) {
                x.preform();
                numbers[11 + 7 * k + 4] = 20;
                numbers[11 + 7 * k + 6] = NONE;
            }
            Check.due("25: " + preforms + " PREFORMS without LAYERS", due[preforms], x.digest());
            digestIs(preforms + " of them, by their numbers", x, numbers);
        }
    }

    private static void promise25OfSomethingOfEach() {
        Preformtower x = GlassTest.withGlass();
        x.proof(x.draw(0, 601), 60);
        x.cable(3, 4, 100);
        x.lay(0, 0, 2);
        Check.due("25: a fibre and a rest of 500", 1817679754450646546L, x.digest());
        digestIs("a fibre and a rest of 500, by its numbers", x,
            1, 2, 1, 0, 500, 1, 1, 0, 0, 0, 6599,
            2, 9, 9, 15, 29, 6599, NONE,
            0, 101, 60, 0, 1, 0, 2, 100,
            0, 500, 60, 0, 0, NONE, NONE, 100,
            3, 4, 100, 4, 0, 0, 0, 1,
            2, 101, 0, 1, 2, 4, 0, 2,
            2, 101, 0, 1, 2, 3, 0, 2,
            NONE, 2, 101, 0, -2, -2, -2,
            1);
    }

    private static void promise25PiecesOf500() {
        int[][] due = {{499, 0}, {500, 1}, {999, 1}, {1000, 2}};
        for (int[] row : due) {
            Preformtower x = EdgesOfGlassTest.layered(1, 1, 0, 9);
            x.draw(0, row[0]);
            digestIs("a REEL of " + row[0], x,
                1, 1, 1, 0, row[0], 0, 0, 0, 0, 0, 4000 - row[0],
                2, 1, 1, 1, 21, 4000 - row[0], 0,
                0, row[0], 0, 0, 0, NONE, NONE, 100,
                row[1]);
        }
    }

    /** The first COLOUR and the last one, SPLICED at SITE 4, and a BREAK. */
    private static void promise25ColourByColour() {
        Preformtower x = GlassTest.withGlass();
        x.cable(3, 4, 100);
        for (int colour = 0; colour <= 5; colour += 5) {
            int reel = x.draw(0, 101);
            x.proof(reel, 60);
            x.lay(reel, 0, colour);
        }
        x.splice(4, 0, 0, 0, 5, 0);
        x.bend(0, 40, 9);
        x.dig(0, 60);
        digestIs("two COLOURS, over at a BREAK", x,
            1, 2, 0, 0, 0, 1, 2, 1, 2, 2, 6998,
            2, 9, 9, 15, 29, 6998, NONE,
            0, 101, 60, 0, 1, 0, 0, 100,
            0, 101, 60, 0, 1, 0, 5, 100,
            3, 4, 100, 33, 1, 1, 0, NONE,
            10, 60, 0, 1, 3, NONE, 0, 0,
            1, 41, 0, 1, 3, NONE, 0, 0,
            60, 0, 40, 9, 3, 60, 0,
            10, 60, 0, 1, 3, NONE, 0, 5,
            1, 41, 0, 1, 3, NONE, 0, 5,
            60, 0, 40, 9, 3, 60, 0,
            0);
        x.mend(0);
        digestIs("two COLOURS, over at an END", x,
            1, 2, 0, 0, 0, 1, 2, 1, 2, 1, 6998,
            2, 9, 9, 15, 29, 6998, NONE,
            0, 101, 60, 0, 1, 0, 0, 100,
            0, 101, 60, 0, 1, 0, 5, 100,
            3, 4, 100, 33, 0, 0, 1, NONE,
            2 + 5 + 2 + 2 + 5, 202, 1, 2, 2, 3, 0, 5,
            2 + 5, 101, 0, 1, 2, 3, 0, 0,
            NONE, 0, 60, 5, 1, 101, 2,
            2 + 5 + 2 + 2 + 5, 202, 1, 2, 2, 3, 0, 0,
            2 + 5, 101, 0, 1, 2, 3, 0, 5,
            NONE, 0, 60, 5, 1, 101, 2,
            0);
    }

    private static void promise25OfAllThatThereCanBe() {
        Preformtower full = RoomTest.full();
        Check.due("25: 6 PREFORMS, 20 fibres, 5 CABLES, 20 FAULTS", WouldBeTest.dueDigest(full), full.digest());
        Preformtower stock = twentyReels();
        Check.due("25: 20 REELS in STOCK", WouldBeTest.dueDigest(stock), stock.digest());
        Preformtower colours = EdgesOfCablesTest.sixColours();
        Check.due("25: 6 COLOURS", WouldBeTest.dueDigest(colours), colours.digest());
        Preformtower all = EdgesOfAskingTest.ofAll();
        Check.due("25: some of all", WouldBeTest.dueDigest(all), all.digest());
    }

    private static void promise21To25ChangeNothing() {
        Supplier<Preformtower> made = EdgesOfAskingTest::ofAll;
        Twin.onlyTells("21: bestReel()", made, x -> x.bestReel(0));
        Twin.onlyTells("22: pieces()", made, x -> x.pieces(100));
        Twin.onlyTells("23: single()", made, x -> x.single(1));
        Twin.onlyTells("24: locate() of a BREAK", made, x -> x.locate(0, 0, 0));
        Twin.onlyTells("24: locate() of a RING", made, x -> x.locate(0, 2, 0));
        Twin.onlyTells("25: digest()", made, x -> x.digest());
    }

    private static void promise25OfWhatWasRefused() {
        Preformtower x = EdgesOfCablesTest.lines();
        long before = x.digest();
        Check.due("25: asked again", before, x.digest());
        Check.refuses(x, "25: a CABLE too short", ARGUMENT, () -> x.cable(0, 1, 99));
        Check.due("25: what was refused changes nothing", before, x.digest());
        x.dig(0, 50);
        Check.due("25: a BREAK changes it", 0, x.digest() == before ? 1 : 0);
    }
}
