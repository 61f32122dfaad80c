import java.util.function.Supplier;

/** Promises 7 to 13 at their edges: a method for each sentence that names one. */
public final class EdgesOfCablesTest {
    private static final Class<? extends RuntimeException> INDEX = Check.INDEX;
    private static final Class<? extends RuntimeException> ARGUMENT = Check.ARGUMENT;
    private static final Class<? extends RuntimeException> STATE = Check.STATE;

    public static void main(String[] args) {
        promise7Ranges();
        promise7BothTheSame();
        promise7FiveAndOneMore();
        promise7OrderOfExceptions();
        promise8Ranges();
        promise8SixColours();
        promise8FibreIsRoundedDown();
        promise8JustLongEnough();
        promise8Proof50And49();
        promise8RestOf100And99();
        promise8RestIsOfTheSamePreform();
        promise8TwentyReels();
        promise8FlawsBehindThatPlace();
        promise8SixFlawsAndNone();
        promise8NotInStock();
        promise8OrderOfExceptions();
        promise9Ranges();
        promise9NoSuchFibre();
        promise9SiteOfBoth();
        promise9AngleIsRoundedDown();
        promise9ModesWithoutTheSign();
        promise9TheSameFibre();
        promise9EachEndOnce();
        promise9InASplice();
        promise9OrderOfExceptions();
        promise10NoSuchFibre();
        promise10NoSplice();
        promise10OrderOfExceptions();
        promise11Ranges();
        promise12Ranges();
        promise11And12FourAndOneMore();
        promise11And12OneAtAPlace();
        promise11And12OrderOfExceptions();
        promise13Ranges();
        promise13NothingToMend();
        promise13FourOfEach();
        promise13BendsBeforeAndBehind();
        Check.end(7, 13);
    }

    // ---- cable

    /** As many CABLES of 100 between SITES 0 and 1, the fibres in them 101 long. */
    static Preformtower cables(int many) {
        Preformtower x = GlassTest.withGlass();
        for (int k = 0; k < many; k++) {
            x.cable(0, 1, 100);
        }
        return x;
    }

    private static void promise7Ranges() {
        Twin.range("7: first SITE", ARGUMENT, () -> cables(1), 0, 5, (x, k) -> x.cable(k, 3, 100));
        Twin.range("7: the other SITE", ARGUMENT, () -> cables(1), 0, 5, (x, k) -> x.cable(3, k, 100));
        Twin.range("7: LENGTH", ARGUMENT, () -> cables(1), 100, 9000, (x, k) -> x.cable(5, 0, k));
    }

    private static void promise7BothTheSame() {
        Twin.refusesAll("7: both are", ARGUMENT, () -> cables(1), (x, k) -> x.cable(k, k, 100), 0, 1, 5, -1, 6);
        Twin.letsAll("7: the next but", () -> cables(1), (x, k) -> x.cable(k, k + 1, 100), 0, 4);
        Preformtower x = new Preformtower();
        x.cable(5, 0, 9000);
        int[] due = {5, 0, 9000, 0, 0, 0, 0};
        for (int what = 0; what <= 6; what++) {
            Check.due("7: ofCable(0, " + what + ")", due[what], x.ofCable(0, what));
        }
    }

    private static void promise7FiveAndOneMore() {
        for (int k = 0; k < 5; k++) {
            Check.due("7: the number behind " + k + " of them", k, cables(k).cable(0, 1, 100));
        }
        Check.due("7: five", 5, cables(5).many(5));
        Twin.refuses("7: a sixth", STATE, () -> cables(5), x -> x.cable(0, 1, 100));
        Twin.refuses("7: a sixth, not like the others", STATE, () -> cables(5), x -> x.cable(5, 4, 9000));
    }

    private static void promise7OrderOfExceptions() {
        Twin.refusesAll("7: a sixth from", ARGUMENT, () -> cables(5), (x, k) -> x.cable(k, 1, 100), -1, 1, 6);
        Twin.refusesAll("7: a sixth to", ARGUMENT, () -> cables(5), (x, k) -> x.cable(1, k, 100), -1, 1, 6);
        Twin.refusesAll("7: a sixth of", ARGUMENT, () -> cables(5), (x, k) -> x.cable(0, 1, k), 99, 9001);
    }

    // ---- lay

    /** A REEL of that LENGTH, of that PROOF, and a CABLE. */
    static Preformtower stock(int length, int proof, int cableLength) {
        Preformtower x = EdgesOfGlassTest.layered(20, 9, 19, 9, 18, 9, 17, 9, 16, 9);
        x.draw(0, length);
        x.proof(0, proof);
        x.cable(0, 1, cableLength);
        return x;
    }

    /** As many REELS of 300 and PROOF 60, and a CABLE in which a fibre is 101 long. */
    private static Preformtower stocks(int many) {
        Preformtower x = cables(1);
        for (int k = 0; k < many; k++) {
            x.proof(x.draw(0, 300), 60);
        }
        return x;
    }

    private static void promise8Ranges() {
        Twin.range("8: REEL", INDEX, () -> stocks(3), 0, 2, (x, k) -> x.lay(k, 0, 0));
        Twin.range("8: COLOUR", ARGUMENT, () -> stocks(1), 0, 5, (x, k) -> x.lay(0, 0, k));
        Twin.range("8: CABLE", INDEX, EdgesOfCablesTest::fiveCablesAndReel, 0, 4, (x, k) -> x.lay(0, k, 0));
    }

    private static Preformtower fiveCablesAndReel() {
        Preformtower x = cables(5);
        x.proof(x.draw(0, 300), 60);
        return x;
    }

    static Preformtower sixColours() {
        Preformtower x = stocks(7);
        for (int k = 0; k < 6; k++) {
            x.lay(k, 0, k);
        }
        return x;
    }

    private static Preformtower sixColoursAndFlaws() {
        Preformtower x = sixColours();
        x.flaw(6, 50, 20);
        x.flaw(6, 200, 30);
        return x;
    }

    private static void promise8SixColours() {
        Preformtower x = stocks(7);
        for (int k = 0; k < 6; k++) {
            Check.due("8: what is left of " + k, 7 + k, x.lay(k, 0, k));
            Check.due("8: COLOURS", (2 << k) - 1, x.ofCable(0, 3));
        }
        Check.due("8: six fibres", 6, x.many(6));
        Twin.refusesAll("8: there is COLOUR", STATE, EdgesOfCablesTest::sixColours, (y, k) -> y.lay(6, 0, k), 0, 5);
        Twin.refuses("8: a seventh COLOUR", ARGUMENT, EdgesOfCablesTest::sixColours, y -> y.lay(6, 0, 6));
        Twin.refuses("8: there is that COLOUR, a REEL with FLAWS", STATE, EdgesOfCablesTest::sixColoursAndFlaws,
            y -> y.lay(6, 0, 3));
        Preformtower z = sixColours();
        z.cable(0, 1, 100);
        Check.due("8: another CABLE has its own six", 13, z.lay(6, 1, 5));
    }

    private static void promise8FibreIsRoundedDown() {
        int[][] due = {{100, 101}, {101, 102}, {199, 200}, {200, 202}, {299, 301}, {8999, 9088}, {9000, 9090}};
        for (int[] row : due) {
            Preformtower x = stock(9500, 50, row[0]);
            Check.due("8: what is left for " + row[0], 1, x.lay(0, 0, 0));
            Check.due("8: a fibre in " + row[0], row[1], x.ofReel(0, 1));
            Check.due("8: what is left of it", 9500 - row[1], x.ofReel(1, 1));
        }
    }

    private static void promise8JustLongEnough() {
        Check.due("8: 101 for 101", -1, stock(101, 50, 100).lay(0, 0, 0));
        Twin.refuses("8: 100 for 101", STATE, () -> stock(100, 50, 100), x -> x.lay(0, 0, 0));
        Check.due("8: 200 for 200", -1, stock(200, 50, 199).lay(0, 0, 0));
        Twin.refuses("8: 200 for 202", STATE, () -> stock(200, 50, 200), x -> x.lay(0, 0, 0));
        Check.due("8: 9090 for 9090", -1, stock(9090, 50, 9000).lay(0, 0, 0));
        Twin.refuses("8: 9089 for 9090", STATE, () -> stock(9089, 50, 9000), x -> x.lay(0, 0, 0));
    }

    private static void promise8Proof50And49() {
        Check.due("8: PROOF 50", 1, stock(300, 50, 100).lay(0, 0, 0));
        Check.due("8: PROOF 100", 1, stock(300, 100, 100).lay(0, 0, 0));
        Twin.refuses("8: PROOF 49", STATE, () -> stock(300, 49, 100), x -> x.lay(0, 0, 0));
        Twin.refuses("8: PROOF 1", STATE, () -> stock(300, 1, 100), x -> x.lay(0, 0, 0));
        Twin.refuses("8: no PROOF", STATE, EdgesOfCablesTest::unproofed, x -> x.lay(1, 0, 0));
        Preformtower x = stock(300, 77, 100);
        x.lay(0, 0, 0);
        Check.due("8: the fibre keeps its PROOF", 77, x.ofReel(0, 2));
        Check.due("8: the rest has the same", 77, x.ofReel(1, 2));
    }

    private static Preformtower unproofed() {
        Preformtower x = stock(300, 50, 100);
        x.draw(0, 300);
        return x;
    }

    private static void promise8RestOf100And99() {
        Preformtower x = stock(201, 50, 100);
        Check.due("8: a rest of 100 is a REEL", 1, x.lay(0, 0, 0));
        int[] rest = {0, 100, 50, 0, 0, -1, -1, 100};
        for (int what = 0; what <= 7; what++) {
            Check.due("8: of the rest, " + what, rest[what], x.ofReel(1, what));
        }
        Preformtower y = stock(200, 50, 100);
        Check.due("8: a rest of 99 is lost", -1, y.lay(0, 0, 0));
        Check.due("8: it is no REEL", 1, y.many(1));
        Check.due("8: nor SCRAP", 0, y.many(3));
        Check.due("8: the fibre is no longer for it", 101, y.ofReel(0, 1));
        Preformtower z = stock(101, 50, 100);
        Check.due("8: no rest at all", -1, z.lay(0, 0, 0));
        Check.due("8: no REEL but the fibre", 1, z.many(1));
        Check.due("8: GLASS stays", 18000 - 101, z.ofPreform(0, 5));
    }

    private static void promise8RestIsOfTheSamePreform() {
        Preformtower x = CablesTest.withReels();
        x.cable(0, 1, 100);
        Check.due("8: what is left of one of PREFORM 1", 2, x.lay(1, 0, 0));
        Check.due("8: PREFORM of the fibre", 1, x.ofReel(1, 0));
        Check.due("8: PREFORM of the rest", 1, x.ofReel(2, 0));
    }

    private static void promise8TwentyReels() {
        Preformtower x = stocks(19);
        Check.due("8: the rest is the twentieth", 19, x.lay(18, 0, 0));
        Check.due("8: twenty", 20, x.many(1));
        Check.due("8: LENGTH of the twentieth", 199, x.ofReel(19, 1));
        Check.due("8: with 20 the rest is lost", -1, x.lay(19, 0, 1));
        Check.due("8: twenty still", 20, x.many(1));
        Check.due("8: the fibre of the twentieth", 101, x.ofReel(19, 1));
        Preformtower y = stocks(20);
        Check.due("8: a rest of 199 is lost", -1, y.lay(0, 0, 0));
        Check.due("8: one fibre", 1, y.many(6));
    }

    /** A REEL of 303 with a FLAW at that place, laid into a CABLE of 200: the fibre is 202, the rest 101. */
    private static Preformtower laidWithFlaw(int at) {
        Preformtower x = stock(303, 50, 200);
        x.flaw(0, at, 30);
        x.lay(0, 0, 0);
        return x;
    }

    private static void promise8FlawsBehindThatPlace() {
        int[][] due = {{1, 0}, {200, 0}, {201, 0}, {202, 0}, {203, 1}, {302, 1}};
        for (int[] row : due) {
            Preformtower x = laidWithFlaw(row[0]);
            Check.due("8: FLAW at " + row[0] + ", in the rest", row[1], x.ofReel(1, 3));
            Check.due("8: FLAW at " + row[0] + ", in the fibre", 0, x.ofReel(0, 3));
            Check.due("8: STRENGTH in the fibre", 100, x.ofReel(0, 7));
            Check.due("8: STRENGTH in the rest", row[1] == 1 ? 30 : 100, x.ofReel(1, 7));
        }
        Preformtower first = laidWithFlaw(203);
        Check.due("8: the rest breaks at 1", 1, first.proof(1, 60));
        Check.due("8: 203 less 202", 1, first.ofReel(1, 1));
        Preformtower last = laidWithFlaw(302);
        Check.due("8: the rest breaks at 100", 1, last.proof(1, 60));
        Check.due("8: 302 less 202", 100, last.ofReel(1, 1));
        Check.due("8: and one more", 1, last.ofReel(2, 1));
    }

    private static void promise8SixFlawsAndNone() {
        Preformtower x = stock(1000, 50, 200);
        for (int k = 1; k <= 6; k++) {
            x.flaw(0, 202 + k, 90 + k);
        }
        Check.due("8: what is left of six FLAWS", 1, x.lay(0, 0, 0));
        Check.due("8: all six are in the rest", 6, x.ofReel(1, 3));
        Check.due("8: the weakest", 91, x.ofReel(1, 7));
        Preformtower y = stock(1000, 50, 200);
        y.flaw(0, 500, 10);
        y.flaw(0, 600, 90);
        y.proof(0, 60);
        Check.due("8: what is left of a piece without FLAWS", 2, y.lay(0, 0, 0));
        Check.due("8: where it broke, the rest has none", 0, y.ofReel(2, 3));
        Check.due("8: none at all", 100, y.ofReel(2, 7));
    }

    private static void promise8NotInStock() {
        Twin.refuses("8: a fibre", STATE, EdgesOfCablesTest::sixColours, x -> x.lay(0, 0, 0));
        Twin.refuses("8: a fibre into another CABLE", STATE, () -> fibreAndScrap(), x -> x.lay(0, 1, 0));
        Twin.refuses("8: SCRAP", STATE, () -> fibreAndScrap(), x -> x.lay(1, 1, 0));
        Check.due("8: a piece of 102 is in STOCK", -1, fibreAndScrap().lay(2, 1, 0));
    }

    /** REELS: 0 a fibre in CABLE 0, 1 SCRAP of 99, 2 of 102; CABLES of 100 and 101. */
    private static Preformtower fibreAndScrap() {
        Preformtower x = stock(302, 60, 100);
        x.cable(0, 1, 101);
        x.flaw(0, 200, 20);
        x.lay(0, 0, 0);
        x.proof(1, 60);
        return x;
    }

    private static void promise8OrderOfExceptions() {
        Twin.refuses("8: no REEL, wrong COLOUR", INDEX, () -> stocks(1), x -> x.lay(1, 0, 6));
        Twin.refuses("8: no CABLE, wrong COLOUR", INDEX, () -> stocks(1), x -> x.lay(0, 1, -1));
        Twin.refuses("8: no REEL, no CABLE, wrong COLOUR", INDEX, () -> stocks(1), x -> x.lay(-1, -1, -1));
        Twin.refuses("8: no CABLE, a fibre", INDEX, () -> fibreAndScrap(), x -> x.lay(0, 2, 0));
        Twin.refuses("8: no REEL, there is that COLOUR", INDEX, () -> fibreAndScrap(), x -> x.lay(3, 0, 0));
        Twin.refuses("8: wrong COLOUR, a fibre", ARGUMENT, () -> fibreAndScrap(), x -> x.lay(0, 1, 6));
        Twin.refuses("8: wrong COLOUR, SCRAP", ARGUMENT, () -> fibreAndScrap(), x -> x.lay(1, 1, -1));
        Twin.refuses("8: wrong COLOUR, PROOF 49", ARGUMENT, () -> stock(300, 49, 100), x -> x.lay(0, 0, 6));
        Twin.refuses("8: wrong COLOUR, too short", ARGUMENT, () -> stock(100, 50, 100), x -> x.lay(0, 0, 6));
    }

    // ---- splice

    /** CABLES 0 (SITES 0, 1), 1 (1, 2) and 2 (0, 1), each with fibres of COLOURS 0 and 5. */
    static Preformtower lines() {
        Preformtower x = GlassTest.withGlass();
        x.cable(0, 1, 100);
        x.cable(1, 2, 100);
        x.cable(0, 1, 100);
        for (int k = 0; k < 6; k++) {
            x.proof(x.draw(0, 101), 60);
            x.lay(k, k / 2, k % 2 * 5);
        }
        return x;
    }

    private static Preformtower spliced() {
        Preformtower x = lines();
        x.splice(1, 0, 0, 1, 5, 0);
        return x;
    }

    private static void promise9Ranges() {
        Twin.range("9: ANGLE", ARGUMENT, EdgesOfCablesTest::lines, 0, 9, (x, k) -> x.splice(1, 0, 0, 1, 0, k));
        Twin.range("9: CABLE", INDEX, EdgesOfCablesTest::lines, 0, 2, (x, k) -> x.splice(1, k, 0, 1, 5, 0));
        Twin.range("9: other CABLE", INDEX, EdgesOfCablesTest::lines, 0, 2, (x, k) -> x.splice(1, 1, 5, k, 0, 0));
        Twin.range("9: COLOUR", INDEX, EdgesOfCablesTest::lines, 0, 5, (x, k) -> x.splice(1, 0, k, 1, 5, 0));
        Twin.range("9: other COLOUR", INDEX, EdgesOfCablesTest::lines, 0, 5, (x, k) -> x.splice(1, 0, 5, 1, k, 0));
    }

    private static void promise9NoSuchFibre() {
        Twin.refusesAll("9: no fibre of COLOUR", INDEX, EdgesOfCablesTest::lines,
            (x, k) -> x.splice(1, 0, k, 1, 0, 0), 1, 4);
        Twin.refusesAll("9: no other fibre of COLOUR", INDEX, EdgesOfCablesTest::lines,
            (x, k) -> x.splice(1, 0, 0, 1, k, 0), 1, 4);
        Twin.refuses("9: a CABLE without fibres", INDEX, () -> cables(2), x -> x.splice(1, 0, 0, 1, 0, 0));
    }

    private static void promise9SiteOfBoth() {
        int[] others = {-1, 0, 2, 3, 5, 6, Integer.MIN_VALUE, Integer.MAX_VALUE};
        Twin.letsAll("9: the SITE of both", EdgesOfCablesTest::lines, (x, k) -> x.splice(k, 0, 0, 1, 0, 0), 1);
        Twin.refusesAll("9: SITE", INDEX, EdgesOfCablesTest::lines, (x, k) -> x.splice(k, 0, 0, 1, 0, 0), others);
        Twin.refusesAll("9: SITE", INDEX, EdgesOfCablesTest::lines, (x, k) -> x.splice(k, 1, 0, 0, 0, 0), others);
        Twin.letsAll("9: either SITE of both", EdgesOfCablesTest::lines, (x, k) -> x.splice(k, 0, 0, 2, 0, 0), 0, 1);
        Twin.refusesAll("9: SITE", INDEX, EdgesOfCablesTest::lines, (x, k) -> x.splice(k, 0, 0, 2, 0, 0), -1, 2, 6);
    }

    private static void promise9AngleIsRoundedDown() {
        int[] due = {2, 2, 4, 6, 10, 14, 20, 26, 34, 42};
        for (int angle = 0; angle <= 9; angle++) {
            Preformtower x = lines();
            Check.due("9: LOSS of ANGLE " + angle, due[angle], x.splice(1, 0, 0, 1, 0, angle));
            Check.due("9: LOSSES together", due[angle], x.many(8));
        }
    }

    private static void promise9ModesWithoutTheSign() {
        Check.due("9: 15 MODES, then 2", 2 + 39, CablesTest.withRing().splice(1, 0, 0, 1, 0, 0));
        Check.due("9: 2 MODES, then 15", 2 + 39, CablesTest.withRing().splice(1, 1, 0, 0, 0, 0));
        Check.due("9: 15 MODES and 15", 2, CablesTest.withRing().splice(0, 0, 0, 2, 0, 1));
    }

    private static void promise9TheSameFibre() {
        Twin.refusesAll("9: the same fibre at SITE", ARGUMENT, EdgesOfCablesTest::lines,
            (x, k) -> x.splice(k, 0, 5, 0, 5, 0), 0, 1);
        Check.due("9: another of the same CABLE", 2, lines().splice(0, 0, 0, 0, 5, 0));
        Check.due("9: the same COLOUR of another CABLE", 2, lines().splice(0, 0, 0, 2, 0, 0));
    }

    private static void promise9EachEndOnce() {
        for (int site = 0; site <= 1; site++) {
            Preformtower x = lines();
            Check.due("9: LOSS at SITE " + site, 10, x.splice(site, 0, 0, 2, 5, 4));
            Check.due("9: one SPLICE", 1, x.many(7));
            Check.due("9: its LOSS counts once", 10, x.many(8));
            Preformtower y = lines();
            Check.due("9: the other way round", 10, y.splice(site, 2, 5, 0, 0, 4));
            Check.due("9: still one", 1, y.many(7));
            Check.due("9: still once", 10, y.many(8));
        }
    }

    private static void promise9InASplice() {
        Twin.refuses("9: again", STATE, EdgesOfCablesTest::spliced, x -> x.splice(1, 0, 0, 1, 5, 0));
        Twin.refuses("9: again, the other way round", STATE, EdgesOfCablesTest::spliced,
            x -> x.splice(1, 1, 5, 0, 0, 0));
        Twin.refuses("9: the first one, as one", STATE, EdgesOfCablesTest::spliced, x -> x.splice(1, 0, 0, 2, 0, 0));
        Twin.refuses("9: the first one, as the other", STATE, EdgesOfCablesTest::spliced,
            x -> x.splice(1, 2, 0, 0, 0, 0));
        Twin.refuses("9: the second one, as one", STATE, EdgesOfCablesTest::spliced, x -> x.splice(1, 1, 5, 2, 0, 0));
        Twin.refuses("9: the second one, as the other", STATE, EdgesOfCablesTest::spliced,
            x -> x.splice(1, 2, 0, 1, 5, 0));
        Check.due("9: its END at the other SITE is in none", 2, spliced().splice(0, 0, 0, 2, 0, 0));
        Check.due("9: nor is the other's", 2, spliced().splice(2, 1, 0, 1, 5, 0));
        Check.due("9: other COLOURS are in none", 2, spliced().splice(1, 0, 5, 1, 0, 0));
    }

    private static void promise9OrderOfExceptions() {
        Twin.refuses("9: no SITE of it, the same fibre", INDEX, EdgesOfCablesTest::lines,
            x -> x.splice(2, 0, 0, 0, 0, 0));
        Twin.refuses("9: no fibre, both the same", INDEX, EdgesOfCablesTest::lines, x -> x.splice(1, 0, 3, 0, 3, 0));
        Twin.refuses("9: no fibre, ANGLE 10", INDEX, EdgesOfCablesTest::lines, x -> x.splice(1, 0, 1, 1, 0, 10));
        Twin.refuses("9: no other fibre, ANGLE -1", INDEX, EdgesOfCablesTest::lines, x -> x.splice(1, 0, 0, 1, 1, -1));
        Twin.refuses("9: no SITE of it, in a SPLICE", INDEX, EdgesOfCablesTest::spliced,
            x -> x.splice(2, 0, 0, 1, 5, 0));
        Twin.refuses("9: no fibre, in a SPLICE", INDEX, EdgesOfCablesTest::spliced, x -> x.splice(1, 0, 0, 1, 4, 0));
        Twin.refuses("9: the same, in a SPLICE", ARGUMENT, EdgesOfCablesTest::spliced, x -> x.splice(1, 0, 0, 0, 0, 0));
        Twin.refusesAll("9: in a SPLICE, ANGLE", ARGUMENT, EdgesOfCablesTest::spliced,
            (x, k) -> x.splice(1, 0, 0, 2, 0, k), -1, 10);
    }

    // ---- part

    private static void promise10NoSuchFibre() {
        int[] noSites = {-1, 2, 5, 6, Integer.MIN_VALUE, Integer.MAX_VALUE};
        Twin.range("10: CABLE", INDEX, EdgesOfCablesTest::ringOfThree, 0, 2, (x, k) -> x.part(1, k, 0));
        Twin.range("10: COLOUR", INDEX, EdgesOfCablesTest::ringOfThree, 0, 5, (x, k) -> x.part(1, 0, k));
        Twin.refusesAll("10: no fibre of COLOUR", INDEX, EdgesOfCablesTest::ringOfThree,
            (x, k) -> x.part(1, 0, k), 1, 4);
        Twin.letsAll("10: SITE", EdgesOfCablesTest::ringOfThree, (x, k) -> x.part(k, 0, 0), 0, 1);
        Twin.refusesAll("10: SITE", INDEX, EdgesOfCablesTest::ringOfThree, (x, k) -> x.part(k, 0, 0), noSites);
    }

    /** At SITE 1 all six ENDS are in SPLICES, at SITE 0 two of four. */
    private static Preformtower ringOfThree() {
        Preformtower x = lines();
        x.splice(1, 0, 0, 2, 0, 1);
        x.splice(1, 0, 5, 1, 0, 3);
        x.splice(1, 2, 5, 1, 5, 9);
        x.splice(0, 0, 0, 2, 0, 5);
        return x;
    }

    private static void promise10NoSplice() {
        Twin.refuses("10: no SPLICE at all", STATE, EdgesOfCablesTest::lines, x -> x.part(1, 0, 0));
        Twin.refuses("10: none at that SITE", STATE, EdgesOfCablesTest::spliced, x -> x.part(0, 0, 0));
        Twin.refuses("10: none of that COLOUR", STATE, EdgesOfCablesTest::spliced, x -> x.part(1, 1, 0));
        Check.due("10: by the one", 42, ringOfThree().part(1, 2, 5));
        Check.due("10: by the other", 42, ringOfThree().part(1, 1, 5));
        Check.due("10: of two between the same fibres, at SITE 0", 14, ringOfThree().part(0, 2, 0));
        Check.due("10: of two between the same fibres, at SITE 1", 2, ringOfThree().part(1, 2, 0));
        Twin.refuses("10: once more", STATE, EdgesOfCablesTest::parted, x -> x.part(1, 2, 5));
        Twin.refuses("10: once more, by the other", STATE, EdgesOfCablesTest::parted, x -> x.part(1, 1, 5));
        Check.due("10: the others are left", 3, parted().many(7));
        Check.due("10: both ENDS are free", 26, parted().splice(1, 1, 5, 2, 5, 7));
    }

    private static Preformtower parted() {
        Preformtower x = ringOfThree();
        x.part(1, 2, 5);
        return x;
    }

    private static void promise10OrderOfExceptions() {
        Twin.refuses("10: no SITE of it, no SPLICE", INDEX, EdgesOfCablesTest::lines, x -> x.part(2, 0, 0));
        Twin.refuses("10: no fibre, no SPLICE", INDEX, EdgesOfCablesTest::lines, x -> x.part(1, 0, 1));
        Twin.refuses("10: no CABLE, no SPLICE", INDEX, EdgesOfCablesTest::lines, x -> x.part(1, 3, 0));
    }

    // ---- dig, bend

    /** CABLES of 100 and of 9000, a fibre in each. */
    static Preformtower shortAndLong() {
        Preformtower x = stock(9500, 60, 9000);
        x.cable(1, 2, 100);
        x.lay(0, 0, 0);
        x.lay(1, 1, 0);
        return x;
    }

    private static void promise11Ranges() {
        Twin.range("11: CABLE", INDEX, EdgesOfCablesTest::shortAndLong, 0, 1, (x, k) -> x.dig(k, 50));
        Twin.range("11: place", ARGUMENT, EdgesOfCablesTest::shortAndLong, 1, 99, (x, k) -> x.dig(1, k));
        Twin.range("11: place", ARGUMENT, EdgesOfCablesTest::shortAndLong, 1, 8999, (x, k) -> x.dig(0, k));
    }

    private static void promise12Ranges() {
        Twin.range("12: CABLE", INDEX, EdgesOfCablesTest::shortAndLong, 0, 1, (x, k) -> x.bend(k, 50, 9));
        Twin.range("12: place", ARGUMENT, EdgesOfCablesTest::shortAndLong, 1, 99, (x, k) -> x.bend(1, k, 9));
        Twin.range("12: place", ARGUMENT, EdgesOfCablesTest::shortAndLong, 1, 8999, (x, k) -> x.bend(0, k, 9));
        Twin.range("12: LOSS", ARGUMENT, EdgesOfCablesTest::shortAndLong, 1, 200, (x, k) -> x.bend(1, 50, k));
        for (int loss : new int[] {1, 200}) {
            Preformtower x = shortAndLong();
            x.bend(1, 50, loss);
            Check.due("12: the LOSS is kept", loss, x.pulse(1, 1, 0, 0, 2));
        }
    }

    /** FAULTS of the long CABLE: BREAKS at 100 and 8000, a BEND at 50, and one more of that kind at 3000. */
    private static Preformtower faults(boolean breaks) {
        Preformtower x = shortAndLong();
        x.dig(0, 8000);
        x.bend(0, 50, 5);
        x.dig(0, 100);
        if (breaks) {
            x.dig(0, 3000);
        } else {
            x.bend(0, 3000, 200);
        }
        return x;
    }

    private static void promise11And12FourAndOneMore() {
        Preformtower x = shortAndLong();
        Check.due("11: the first", 1, x.dig(0, 8999));
        Check.due("12: the second", 2, x.bend(0, 1, 200));
        Check.due("11: the third", 3, x.dig(0, 4000));
        Check.due("12: the fourth", 4, x.bend(0, 3999, 1));
        Check.due("11: another CABLE has its own four", 1, x.dig(1, 99));
        Check.due("12: another CABLE has its own four", 2, x.bend(1, 1, 1));
        Twin.refuses("11: a fifth", STATE, () -> faults(true), y -> y.dig(0, 5000));
        Twin.refuses("12: a fifth", STATE, () -> faults(false), y -> y.bend(0, 5000, 9));
        Twin.refuses("11: a fifth behind four JOINTS", STATE, EdgesOfCablesTest::joints, y -> y.dig(0, 5000));
        Twin.refuses("12: a fifth behind four JOINTS", STATE, EdgesOfCablesTest::joints, y -> y.bend(0, 5000, 9));
    }

    /** JOINTS at 1, 4000, 4030 and 8999 of the long CABLE. */
    private static Preformtower joints() {
        Preformtower x = shortAndLong();
        x.dig(0, 4030);
        x.dig(0, 1);
        x.dig(0, 8999);
        x.dig(0, 4000);
        x.mend(0);
        return x;
    }

    /** A BEND at 50, a BREAK at 100 and a JOINT at 3000. */
    private static Preformtower oneOfEach() {
        Preformtower x = shortAndLong();
        x.dig(0, 3000);
        x.mend(0);
        x.dig(0, 100);
        x.bend(0, 50, 5);
        return x;
    }

    private static void promise11And12OneAtAPlace() {
        int[] taken = {50, 100, 3000};
        int[] free = {49, 51, 99, 101, 2999, 3001};
        Supplier<Preformtower> made = EdgesOfCablesTest::oneOfEach;
        Twin.refusesAll("11: there is one at", STATE, made, (x, k) -> x.dig(0, k), taken);
        Twin.refusesAll("12: there is one at", STATE, made, (x, k) -> x.bend(0, k, 5), taken);
        Twin.letsAll("11: there is none at", made, (x, k) -> x.dig(0, k), free);
        Twin.letsAll("12: there is none at", made, (x, k) -> x.bend(0, k, 5), free);
        Twin.letsAll("11: nor in another CABLE at", made, (x, k) -> x.dig(1, k), 50);
        Twin.letsAll("12: nor in another CABLE at", made, (x, k) -> x.bend(1, k, 5), 50);
    }

    private static void promise11And12OrderOfExceptions() {
        Supplier<Preformtower> four = () -> faults(true);
        Twin.refusesAll("11: no CABLE, at", INDEX, four, (x, k) -> x.dig(2, k), 0, 9000, 50);
        Twin.refusesAll("11: a fifth, at", ARGUMENT, four, (x, k) -> x.dig(0, k), 0, 9000);
        Twin.refuses("11: a fifth, and one at that place", STATE, four, x -> x.dig(0, 50));
        Twin.refusesAll("12: no CABLE, at", INDEX, four, (x, k) -> x.bend(2, k, 0), 0, 9000, 50);
        Twin.refusesAll("12: no CABLE, LOSS", INDEX, four, (x, k) -> x.bend(-1, 50, k), 0, 201);
        Twin.refusesAll("12: a fifth, at", ARGUMENT, four, (x, k) -> x.bend(0, k, 5), 0, 9000);
        Twin.refusesAll("12: one at that place, LOSS", ARGUMENT, four, (x, k) -> x.bend(0, 50, k), 0, 201);
        Twin.refuses("12: a fifth, and one at that place", STATE, four, x -> x.bend(0, 100, 5));
    }

    // ---- mend

    private static void promise13Ranges() {
        Twin.range("13: CABLE", INDEX, EdgesOfCablesTest::shortAndLong, 0, 1, (x, k) -> x.mend(k));
    }

    private static void promise13NothingToMend() {
        Preformtower x = shortAndLong();
        Check.due("13: no FAULT", 0, x.mend(0));
        x.bend(0, 100, 5);
        Check.due("13: one BEND is no BREAK", 0, x.mend(0));
        Check.due("13: but it goes", 0, x.many(9));
        x.dig(0, 100);
        Check.due("13: one BREAK", 1, x.mend(0));
        Check.due("13: one JOINT is no BREAK", 0, x.mend(0));
        Check.due("13: and stays", 1, x.ofCable(0, 6));
    }

    private static void promise13FourOfEach() {
        Preformtower x = shortAndLong();
        for (int k = 1; k <= 4; k++) {
            x.bend(0, 1000 * k, 200);
        }
        Check.due("13: four BENDS are no BREAKS", 0, x.mend(0));
        Check.due("13: four BENDS go", 0, x.many(9));
        for (int k = 4; k >= 1; k--) {
            Check.due("13: where they were is room again", 5 - k, x.dig(0, 1000 * k));
        }
        x.dig(1, 50);
        Check.due("13: four BREAKS become JOINTS", 4, x.mend(0));
        Check.due("13: BREAKS", 0, x.ofCable(0, 4));
        Check.due("13: JOINTS", 4, x.ofCable(0, 6));
        Check.due("13: those of the other CABLE stay", 1, x.ofCable(1, 4));
        for (int k = 1; k <= 4; k++) {
            Check.due("13: a JOINT is where the BREAK was", 1010 * k, x.pulse(0, 0, 0, k - 1, 1));
            Check.due("13: LOSS of a JOINT", 5, x.pulse(0, 0, 0, k - 1, 2));
        }
        Check.due("13: four JOINTS, nothing more to mend", 0, x.mend(0));
    }

    private static void promise13BendsBeforeAndBehind() {
        Preformtower x = shortAndLong();
        x.bend(1, 20, 9);
        x.dig(1, 40);
        x.dig(1, 75);
        x.bend(1, 90, 9);
        Check.due("13: two BREAKS among BENDS", 2, x.mend(1));
        Check.due("13: two JOINTS", 2, x.ofCable(1, 6));
        Check.due("13: no BENDS", 0, x.ofCable(1, 5));
        Check.due("13: the first JOINT", 40, x.pulse(1, 1, 0, 0, 1));
        Check.due("13: the other JOINT", 75, x.pulse(1, 1, 0, 1, 1));
        Check.due("13: then the END", 2, x.pulse(1, 1, 0, 2, 0));
        Check.due("13: no BEND loses anything any more", 2 + 10, x.way(1, 1, 0, 0));
        Twin.refusesAll("11: there is a JOINT at", STATE, EdgesOfCablesTest::mendedAmongBends,
            (y, k) -> y.dig(1, k), 40, 75);
        Twin.letsAll("12: the BEND is gone at", EdgesOfCablesTest::mendedAmongBends, (y, k) -> y.bend(1, k, 9), 20, 90);
    }

    private static Preformtower mendedAmongBends() {
        Preformtower x = shortAndLong();
        x.bend(1, 20, 9);
        x.dig(1, 40);
        x.dig(1, 75);
        x.bend(1, 90, 9);
        x.mend(1);
        return x;
    }
}
