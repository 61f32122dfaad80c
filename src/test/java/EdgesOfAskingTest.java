import java.util.function.Supplier;

/** Promises 14 to 20 at their edges: a method for each sentence that names one. */
public final class EdgesOfAskingTest {
    private static final Class<? extends RuntimeException> INDEX = Check.INDEX;
    private static final Class<? extends RuntimeException> ARGUMENT = Check.ARGUMENT;
    private static final int[] NO_SITES = {-1, 2, 3, 5, 6, Integer.MIN_VALUE, Integer.MAX_VALUE};
    /** A PULSE has one EVENT at least, and what comes behind the last one is this. */
    private static final int NO_EVENT = -2;

    public static void main(String[] args) {
        promise14Ranges();
        promise14OrderOfExceptions();
        promise14TheLeastAndTheMost();
        promise15Ranges();
        promise15OrderOfExceptions();
        promise15TheSmallestStrength();
        promise15WhereItIs();
        promise16Ranges();
        promise16OrderOfExceptions();
        promise16SetOfColours();
        promise16NoFaultsAndFour();
        promise17Ranges();
        promise17OrderOfExceptions();
        promise17WhatLiesAMetresFromTheFirstSite();
        promise17LossIsRoundedDown();
        promise17EachFibreByItself();
        promise17PassesWhatComesBeforeABreak();
        promise17AtAnEndWithoutASplice();
        promise17TheSmallestRing();
        promise18Ranges();
        promise18OrderOfExceptions();
        promise18NoSuchEvent();
        promise18BehindTheBeginning();
        promise18BehindTheLatestOneThatIsTold();
        promise18BehindASpliceAndBefore();
        promise18TheLastOneAlwaysIs();
        promise18SeenOfASplice();
        promise19Ranges();
        promise19TheEvenOneOfTwoAsNear();
        promise19WhateverItIsOverAt();
        promise20Ranges();
        promise20OfNothing();
        promise20OfAllThatThereCanBe();
        promise14To20ChangeNothing();
        Check.end(14, 20);
    }

    // ---- ofPreform, ofReel, ofCable

    private static Preformtower sixPreforms() {
        Preformtower x = new Preformtower();
        for (int k = 0; k < 6; k++) {
            x.preform();
        }
        return x;
    }

    private static void promise14Ranges() {
        Twin.range("14: PREFORM", INDEX, EdgesOfAskingTest::sixPreforms, 0, 5, (x, k) -> x.ofPreform(k, 0));
        Twin.range("14: what", ARGUMENT, EdgesOfAskingTest::sixPreforms, 0, 5, (x, k) -> x.ofPreform(0, k));
        Twin.range("14: what", ARGUMENT, () -> EdgesOfGlassTest.layered(9, 9, 0, 9), 0, 5, (x, k) -> x.ofPreform(0, k));
    }

    private static void promise14OrderOfExceptions() {
        Twin.refusesAll("14: no PREFORM, what", INDEX, EdgesOfAskingTest::sixPreforms,
            (x, k) -> x.ofPreform(6, k), -1, 6);
        Twin.refusesAll("14: no PREFORM, what", INDEX, EdgesOfAskingTest::sixPreforms,
            (x, k) -> x.ofPreform(-1, k), -1, 6);
    }

    private static void preformIs(String what, Preformtower x, int... due) {
        for (int k = 0; k < due.length; k++) {
            Check.due("14: " + what + ", " + k, due[k], x.ofPreform(0, k));
        }
    }

    private static void promise14TheLeastAndTheMost() {
        preformIs("no LAYER", EdgesOfGlassTest.layered(), 0, 0, 0, 0, 20, 0);
        preformIs("no CORE, one LAYER", EdgesOfGlassTest.layered(20, 9), 1, 0, 0, 0, 20, 3600);
        preformIs("no CORE, two", EdgesOfGlassTest.layered(7, 1, 7, 1), 2, 0, 0, 0, 20, 800);
        preformIs("the least CORE", EdgesOfGlassTest.layered(20, 1, 19, 1), 2, 1, 1, 1, 21, 800);
        Preformtower most = EdgesOfGlassTest.layered(20, 9, 20, 9, 20, 9, 20, 9, 20, 9, 20, 9, 20, 9, 0, 9);
        preformIs("the most of all", most, 8, 63, 20, 1588, 40, 28800);
        most.draw(0, 20000);
        most.draw(0, 8800);
        preformIs("all of it drawn", most, 8, 63, 20, 1588, 40, 0);
    }

    private static void promise15Ranges() {
        Twin.range("15: REEL", INDEX, () -> EdgesOfGlassTest.reels(20), 0, 19, (x, k) -> x.ofReel(k, 1));
        Twin.range("15: what", ARGUMENT, () -> EdgesOfGlassTest.reels(1), 0, 7, (x, k) -> x.ofReel(0, k));
        Twin.range("15: what", ARGUMENT, EdgesOfCablesTest::sixColours, 0, 7, (x, k) -> x.ofReel(0, k));
    }

    private static void promise15OrderOfExceptions() {
        Twin.refusesAll("15: no REEL, what", INDEX, () -> EdgesOfGlassTest.reels(1), (x, k) -> x.ofReel(1, k), -1, 8);
        Twin.refusesAll("15: no REEL, what", INDEX, () -> EdgesOfGlassTest.reels(1), (x, k) -> x.ofReel(-1, k), -1, 8);
    }

    private static void promise15TheSmallestStrength() {
        Check.due("15: without any", 100, EdgesOfGlassTest.flawed(500).ofReel(0, 7));
        Check.due("15: the strongest one alone", 99, EdgesOfGlassTest.flawed(500, 70, 99).ofReel(0, 7));
        Check.due("15: the weakest of all", 1, EdgesOfGlassTest.flawed(500, 70, 99, 60, 1, 80, 2).ofReel(0, 7));
        Check.due("15: two of the same", 50, EdgesOfGlassTest.flawed(500, 70, 50, 60, 50).ofReel(0, 7));
        Preformtower x = EdgesOfGlassTest.flawed(500, 70, 10);
        x.proof(0, 11);
        Check.due("15: where it broke is no FLAW", 100, x.ofReel(0, 7));
        Check.due("15: nor on the other side", 100, x.ofReel(1, 7));
        Check.due("15: no FLAWS", 0, x.ofReel(0, 3));
    }

    private static void promise15WhereItIs() {
        Preformtower x = EdgesOfCablesTest.sixColours();
        int[] last = {0, 101, 60, 0, 1, 0, 5, 100};
        int[] rest = {0, 199, 60, 0, 0, -1, -1, 100};
        for (int what = 0; what <= 7; what++) {
            Check.due("15: a fibre, " + what, last[what], x.ofReel(5, what));
            Check.due("15: what is left of it, " + what, rest[what], x.ofReel(12, what));
        }
        Preformtower y = EdgesOfGlassTest.flawed(199, 99, 10);
        int[] stock = {0, 199, 0, 1, 0, -1, -1, 10};
        int[] scrap = {0, 99, 60, 0, 2, -1, -1, 100};
        int[] piece = {0, 100, 60, 0, 0, -1, -1, 100};
        for (int what = 0; what <= 7; what++) {
            Check.due("15: of STOCK, " + what, stock[what], y.ofReel(0, what));
        }
        y.proof(0, 60);
        for (int what = 0; what <= 7; what++) {
            Check.due("15: SCRAP of 99, " + what, scrap[what], y.ofReel(0, what));
            Check.due("15: a piece of 100, " + what, piece[what], y.ofReel(1, what));
        }
    }

    private static void promise16Ranges() {
        Twin.range("16: CABLE", INDEX, () -> EdgesOfCablesTest.cables(5), 0, 4, (x, k) -> x.ofCable(k, 0));
        Twin.range("16: what", ARGUMENT, EdgesOfCablesTest::sixColours, 0, 6, (x, k) -> x.ofCable(0, k));
    }

    private static void promise16OrderOfExceptions() {
        Twin.refusesAll("16: no CABLE, what", INDEX, EdgesOfCablesTest::lines, (x, k) -> x.ofCable(3, k), -1, 7);
        Twin.refusesAll("16: no CABLE, what", INDEX, EdgesOfCablesTest::lines, (x, k) -> x.ofCable(-1, k), -1, 7);
    }

    private static void promise16SetOfColours() {
        Check.due("16: no fibre", 0, EdgesOfCablesTest.cables(1).ofCable(0, 3));
        Check.due("16: all six", 63, EdgesOfCablesTest.sixColours().ofCable(0, 3));
        for (int colour = 0; colour <= 5; colour++) {
            Preformtower x = EdgesOfCablesTest.stock(101, 50, 100);
            x.lay(0, 0, colour);
            Check.due("16: COLOUR " + colour + " alone", 1 << colour, x.ofCable(0, 3));
        }
    }

    private static void promise16NoFaultsAndFour() {
        for (int kind = 4; kind <= 6; kind++) {
            Preformtower x = EdgesOfCablesTest.cables(2);
            for (int k = 1; k <= 4; k++) {
                if (kind == 5) {
                    x.bend(1, 20 * k, 9);
                } else {
                    x.dig(1, 20 * k);
                }
            }
            if (kind == 6) {
                x.mend(1);
            }
            for (int what = 4; what <= 6; what++) {
                Check.due("16: four of " + kind + ", of " + what, what == kind ? 4 : 0, x.ofCable(1, what));
                Check.due("16: the other CABLE has none of " + what, 0, x.ofCable(0, what));
            }
        }
    }

    // ---- way

    /** SCATTER is 20 and the CONTRAST, MODES 1; a fibre in each CABLE, SPLICED one behind the other from SITE 0 on. */
    private static Preformtower chain(int contrast, int... lengths) {
        Preformtower x = EdgesOfGlassTest.layered(contrast, 1, 0, 9, 0, 9, 0, 9, 0, 9);
        for (int k = 0; k < lengths.length; k++) {
            x.cable(k, k + 1, lengths[k]);
            x.proof(x.draw(0, lengths[k] + lengths[k] / 100), 50);
            x.lay(k, k, 0);
            if (k > 0) {
                x.splice(k, k - 1, 0, k, 0, 0);
            }
        }
        return x;
    }

    /** A chain with BENDS of LOSS 1, 2, .. in its first CABLE. */
    private static Preformtower bent(int length, int... places) {
        Preformtower x = chain(5, length);
        for (int k = 0; k < places.length; k++) {
            x.bend(0, places[k], k + 1);
        }
        return x;
    }

    private static Preformtower dug(int contrast, int length, int at) {
        Preformtower x = chain(contrast, length);
        x.dig(0, at);
        return x;
    }

    private static void wayIs(String name, Preformtower x, int site, int cable, int colour, int... due) {
        for (int what = 0; what < due.length; what++) {
            Check.due("17: " + name + ", " + what, due[what], x.way(site, cable, colour, what));
        }
    }

    private static void promise17Ranges() {
        Supplier<Preformtower> made = EdgesOfCablesTest::lines;
        Twin.range("17: CABLE", INDEX, made, 0, 2, (x, k) -> x.way(1, k, 0, 0));
        Twin.range("17: COLOUR", INDEX, made, 0, 5, (x, k) -> x.way(1, 0, k, 0));
        Twin.range("17: what", ARGUMENT, made, 0, 7, (x, k) -> x.way(1, 0, 0, k));
        Twin.letsAll("17: SITE", made, (x, k) -> x.way(k, 0, 0, 0), 0, 1);
        Twin.refusesAll("17: SITE", INDEX, made, (x, k) -> x.way(k, 0, 0, 0), NO_SITES);
        Twin.refusesAll("17: no fibre of COLOUR", INDEX, made, (x, k) -> x.way(1, 0, k, 0), 1, 4);
        Twin.refuses("17: no fibre at all", INDEX, () -> EdgesOfCablesTest.cables(1), x -> x.way(0, 0, 0, 0));
    }

    private static void promise17OrderOfExceptions() {
        Supplier<Preformtower> made = EdgesOfCablesTest::lines;
        Twin.refusesAll("17: no CABLE, what", INDEX, made, (x, k) -> x.way(1, 3, 0, k), -1, 8);
        Twin.refusesAll("17: no fibre, what", INDEX, made, (x, k) -> x.way(1, 0, 1, k), -1, 8);
        Twin.refusesAll("17: no SITE of it, what", INDEX, made, (x, k) -> x.way(2, 0, 0, k), -1, 8);
    }

    private static void promise17WhatLiesAMetresFromTheFirstSite() {
        int[][] due = {{1, 1}, {99, 99}, {100, 101}, {101, 102}, {199, 200}, {200, 202}, {298, 300}, {299, 301}};
        for (int[] row : due) {
            Preformtower x = dug(5, 300, row[0]);
            Check.due("17: a BREAK at " + row[0], row[1], x.way(0, 0, 0, 1));
            Check.due("17: a BREAK at " + row[0] + ", from the other SITE", 303 - row[1], x.way(1, 0, 0, 1));
        }
        Check.due("17: a BREAK at 1 of 100", 1, dug(5, 100, 1).way(0, 0, 0, 1));
        Check.due("17: a BREAK at 99 of 100, from the other SITE", 2, dug(5, 100, 99).way(1, 0, 0, 1));
        Check.due("17: a BREAK at 8999 of 9000", 9088, dug(5, 9000, 8999).way(0, 0, 0, 1));
        Check.due("17: a BREAK at 1 of 9000, from the other SITE", 9089, dug(5, 9000, 1).way(1, 0, 0, 1));
    }

    private static void promise17LossIsRoundedDown() {
        int[][] due = {{1, 0}, {39, 0}, {40, 1}, {79, 1}, {80, 2}};
        for (int[] row : due) {
            Check.due("17: 25 * " + row[0] + " / 1000", row[1], dug(5, 100, row[0]).way(0, 0, 0, 0));
            Check.due("17: the same from the other SITE", row[0] == 1 ? 2 : row[1],
                dug(5, 100, row[0] == 1 ? 21 : 101 - row[0]).way(1, 0, 0, 0));
        }
        Check.due("17: 27 * 37 are 999", 0, dug(7, 100, 37).way(0, 0, 0, 0));
        Check.due("17: 27 * 38 are 1026", 1, dug(7, 100, 38).way(0, 0, 0, 0));
        Check.due("17: 40 * 9090 / 1000, the most of a fibre", 363, chain(20, 9000).way(0, 0, 0, 0));
        Check.due("17: 21 * 101 / 1000, the least of a fibre", 2, chain(1, 100).way(0, 0, 0, 0));
    }

    private static void promise17EachFibreByItself() {
        // 25 * 101 are 2525: of two fibres 2 and 2, and the SPLICE 2; 5050 together would be 5.
        wayIs("two fibres", chain(5, 100, 100), 0, 0, 0, 6, 202, 1, 2, 2, 2, 1, 0);
        wayIs("five fibres", chain(5, 100, 100, 100, 100, 100), 0, 0, 0, 18, 505, 4, 5, 2, 5, 4, 0);
        Preformtower x = chain(5, 100, 100);
        x.dig(1, 39);
        wayIs("2525 and 975", x, 0, 0, 0, 4, 140, 1, 2, 3, -1, 1, 0);
        Preformtower y = chain(5, 100, 100);
        y.dig(1, 40);
        wayIs("2525 and 1000", y, 0, 0, 0, 5, 141, 1, 2, 3, -1, 1, 0);
    }

    private static void promise17PassesWhatComesBeforeABreak() {
        Preformtower x = bent(100, 49, 51);
        x.dig(0, 50);
        wayIs("a BEND before, one behind", x, 0, 0, 0, 1 + 1, 50, 0, 1, 3, -1, 0, 0);
        wayIs("from the other SITE", x, 1, 0, 0, 1 + 2, 51, 0, 1, 3, -1, 0, 0);
        x.dig(0, 20);
        wayIs("the first of two BREAKS", x, 0, 0, 0, 0, 20, 0, 1, 3, -1, 0, 0);
        wayIs("from there the other one", x, 1, 0, 0, 3, 51, 0, 1, 3, -1, 0, 0);
        x.mend(0);
        wayIs("two JOINTS", x, 0, 0, 0, 2 + 10, 101, 0, 1, 2, 1, 0, 0);
        Preformtower y = chain(5, 100, 100);
        y.dig(0, 99);
        wayIs("a BREAK just before a SPLICE", y, 0, 0, 0, 2, 99, 0, 1, 3, -1, 0, 0);
        wayIs("a BREAK just behind it", y, 2, 1, 0, 2 + 2, 103, 1, 2, 3, -1, 0, 0);
    }

    private static void promise17AtAnEndWithoutASplice() {
        wayIs("one fibre", chain(5, 100), 0, 0, 0, 2, 101, 0, 1, 2, 1, 0, 0);
        wayIs("one fibre, from the other SITE", chain(5, 100), 1, 0, 0, 2, 101, 0, 1, 2, 0, 0, 0);
        wayIs("away from a SPLICE", chain(5, 100, 100), 1, 0, 0, 2, 101, 0, 1, 2, 0, 0, 0);
        Preformtower x = chain(5, 100, 100);
        x.part(1, 0, 0);
        wayIs("the SPLICE was taken apart", x, 0, 0, 0, 2, 101, 0, 1, 2, 1, 0, 0);
    }

    /** Fibres of COLOURS 0 and 5 of a CABLE of 100, SPLICED at both SITES. */
    private static Preformtower smallRing() {
        Preformtower x = EdgesOfCablesTest.lines();
        x.splice(0, 2, 0, 2, 5, 9);
        x.splice(1, 2, 0, 2, 5, 4);
        return x;
    }

    private static void promise17TheSmallestRing() {
        Preformtower x = smallRing();
        wayIs("from SITE 0", x, 0, 2, 0, 2 + 10 + 2, 202, 1, 2, 4, -1, 2, 5);
        wayIs("of the other fibre", x, 0, 2, 5, 2 + 10 + 2, 202, 1, 2, 4, -1, 2, 0);
        wayIs("from SITE 1", x, 1, 2, 0, 2 + 42 + 2, 202, 1, 2, 4, -1, 2, 5);
        x.part(0, 2, 5);
        wayIs("no RING any more", x, 0, 2, 0, 2 + 10 + 2, 202, 1, 2, 2, 0, 2, 5);
        wayIs("no RING from SITE 1", x, 1, 2, 0, 2, 101, 0, 1, 2, 0, 2, 0);
        Preformtower y = smallRing();
        y.dig(2, 99);
        wayIs("a BREAK comes before", y, 0, 2, 0, 2, 99, 0, 1, 3, -1, 2, 0);
    }

    // ---- pulse

    /** Kind, how long, SEEN of each EVENT, and then none any more. */
    private static void pulseIs(String name, Preformtower x, int site, int... due) {
        int events = due.length / 3;
        for (int event = 0; event <= events; event++) {
            for (int what = 0; what <= 2; what++) {
                int want = event < events ? due[event * 3 + what] : NO_EVENT;
                Check.due("18: " + name + ", EVENT " + event + ", " + what, want, x.pulse(site, 0, 0, event, what));
            }
        }
    }

    private static void promise18Ranges() {
        Supplier<Preformtower> made = EdgesOfCablesTest::lines;
        Twin.range("18: CABLE", INDEX, made, 0, 2, (x, k) -> x.pulse(1, k, 0, 0, 0));
        Twin.range("18: COLOUR", INDEX, made, 0, 5, (x, k) -> x.pulse(1, 0, k, 0, 0));
        Twin.range("18: what", ARGUMENT, made, 0, 2, (x, k) -> x.pulse(1, 0, 0, 0, k));
        Twin.letsAll("18: SITE", made, (x, k) -> x.pulse(k, 0, 0, 0, 0), 0, 1);
        Twin.refusesAll("18: SITE", INDEX, made, (x, k) -> x.pulse(k, 0, 0, 0, 0), NO_SITES);
        Twin.refusesAll("18: no fibre of COLOUR", INDEX, made, (x, k) -> x.pulse(1, 0, k, 0, 0), 1, 4);
        Twin.letsAll("18: event", made, (x, k) -> x.pulse(1, 0, 0, k, 0), 0, 1, Integer.MAX_VALUE);
        Twin.refusesAll("18: event", ARGUMENT, made, (x, k) -> x.pulse(1, 0, 0, k, 0), -1, NO_EVENT, Integer.MIN_VALUE);
    }

    private static void promise18OrderOfExceptions() {
        Supplier<Preformtower> made = EdgesOfCablesTest::lines;
        Twin.refuses("18: no CABLE, event -1", INDEX, made, x -> x.pulse(1, 3, 0, -1, 0));
        Twin.refuses("18: no fibre, event -1", INDEX, made, x -> x.pulse(1, 0, 1, -1, 0));
        Twin.refuses("18: no SITE of it, event -1", INDEX, made, x -> x.pulse(2, 0, 0, -1, 0));
        Twin.refusesAll("18: no fibre, what", INDEX, made, (x, k) -> x.pulse(1, 0, 1, 0, k), -1, 3);
        Twin.refusesAll("18: no SITE of it, what", INDEX, made, (x, k) -> x.pulse(2, 0, 0, 0, k), -1, 3);
        Twin.refusesAll("18: no such EVENT, what", ARGUMENT, made, (x, k) -> x.pulse(1, 0, 0, 99, k), -1, 3);
    }

    private static void promise18NoSuchEvent() {
        for (int what = 0; what <= 2; what++) {
            Check.due("18: one behind the last", NO_EVENT, chain(5, 100).pulse(0, 0, 0, 1, what));
            Check.due("18: far behind the last", NO_EVENT, chain(5, 100).pulse(0, 0, 0, Integer.MAX_VALUE, what));
            Check.due("18: one behind five", NO_EVENT, bent(200, 30, 60, 90, 120).pulse(0, 0, 0, 5, what));
        }
        Check.due("18: the fifth of five", 2, bent(200, 30, 60, 90, 120).pulse(0, 0, 0, 4, 0));
    }

    private static void promise18BehindTheBeginning() {
        pulseIs("30 behind the beginning", bent(100, 30), 0, 0, 30, 1, 2, 101, 0);
        pulseIs("29 behind it", bent(100, 29), 0, 2, 101, 0);
        pulseIs("1 behind it", bent(100, 1), 0, 2, 101, 0);
        pulseIs("30 from the other SITE", bent(100, 71), 1, 0, 30, 1, 2, 101, 0);
        pulseIs("29 from the other SITE", bent(100, 72), 1, 2, 101, 0);
        Preformtower x = dug(5, 100, 30);
        x.mend(0);
        pulseIs("a JOINT 30 behind it", x, 0, 0, 30, 5, 2, 101, 0);
        Preformtower y = dug(5, 100, 29);
        y.mend(0);
        pulseIs("a JOINT 29 behind it", y, 0, 2, 101, 0);
    }

    private static void promise18BehindTheLatestOneThatIsTold() {
        pulseIs("30 behind it", bent(200, 40, 70), 0, 0, 40, 1, 0, 70, 2, 2, 202, 0);
        pulseIs("29 behind it", bent(200, 40, 69), 0, 0, 40, 1, 2, 202, 0);
        pulseIs("30 over a hundred", bent(200, 71, 100), 0, 0, 71, 1, 0, 101, 2, 2, 202, 0);
        pulseIs("29 over a hundred", bent(200, 71, 99), 0, 0, 71, 1, 2, 202, 0);
        pulseIs("29 behind one that is not told", bent(200, 29, 58), 0, 0, 58, 2, 2, 202, 0);
        pulseIs("30 behind the latest that is told, 1 behind another", bent(200, 40, 69, 70), 0,
            0, 40, 1, 0, 70, 3, 2, 202, 0);
        pulseIs("30 behind one that is not told", bent(200, 40, 50, 80), 0, 0, 40, 1, 0, 80, 3, 2, 202, 0);
        pulseIs("each of four", bent(200, 40, 69, 98, 99), 0, 0, 40, 1, 0, 98, 3, 2, 202, 0);
        pulseIs("from the other SITE", bent(200, 40, 69, 98, 99), 1, 0, 103, 4, 0, 133, 2, 2, 202, 0);
        pulseIs("from the other SITE, 30", bent(200, 40, 70), 1, 0, 132, 2, 0, 162, 1, 2, 202, 0);
    }

    /** Two fibres of 101; BENDS of LOSS 7 in the first and of 8 in the second CABLE. */
    private static Preformtower bentAround(int first, int second) {
        Preformtower x = chain(5, 100, 100);
        x.bend(0, first, 7);
        x.bend(1, second, 8);
        return x;
    }

    private static void promise18BehindASpliceAndBefore() {
        pulseIs("a SPLICE 30 behind", bentAround(71, 30), 0, 0, 71, 7, 1, 101, 2, 0, 131, 8, 2, 202, 0);
        pulseIs("29 behind a SPLICE", bentAround(71, 29), 0, 0, 71, 7, 1, 101, 2, 2, 202, 0);
        pulseIs("a SPLICE 29 behind is not told", bentAround(72, 1), 0, 0, 72, 7, 0, 102, 8, 2, 202, 0);
        pulseIs("neither is one 29 behind", bentAround(73, 1), 0, 0, 73, 7, 2, 202, 0);
        pulseIs("but one 30 behind is", bentAround(73, 2), 0, 0, 73, 7, 0, 103, 8, 2, 202, 0);
        Check.due("18: the SPLICE that is not told is passed", 1, bentAround(72, 1).way(0, 0, 0, 2));
        Check.due("18: and loses", 2 + 7 + 2 + 8 + 2, bentAround(72, 1).way(0, 0, 0, 0));
    }

    private static void promise18TheLastOneAlwaysIs() {
        pulseIs("an END 30 behind", bent(100, 71), 0, 0, 71, 1, 2, 101, 0);
        pulseIs("an END 29 behind", bent(100, 72), 0, 0, 72, 1, 2, 101, 0);
        pulseIs("an END 2 behind", bent(100, 99), 0, 0, 99, 1, 2, 101, 0);
        pulseIs("an END 1 behind", bent(100, 1), 1, 0, 100, 1, 2, 101, 0);
        pulseIs("a BREAK 1 behind the beginning", dug(5, 100, 1), 0, 3, 1, 0);
        pulseIs("a BREAK 29 behind it", dug(5, 100, 29), 0, 3, 29, 0);
        pulseIs("a BREAK 30 behind it", dug(5, 100, 30), 0, 3, 30, 0);
        for (int behind : new int[] {1, 29, 30}) {
            Preformtower x = bent(100, 40);
            x.dig(0, 40 + behind);
            pulseIs("a BREAK " + behind + " behind a BEND", x, 0, 0, 40, 1, 3, 40 + behind, 0);
        }
        for (int behind : new int[] {1, 29, 30}) {
            Preformtower x = chain(5, 100, 100);
            x.dig(1, behind);
            pulseIs("a BREAK " + behind + " behind a SPLICE", x, 0, 1, 101, 2, 3, 101 + behind, 0);
        }
        for (int behind : new int[] {1, 29, 30}) {
            Preformtower x = EdgesOfCablesTest.lines();
            x.splice(0, 0, 0, 0, 5, 0);
            x.splice(1, 0, 0, 0, 5, 0);
            x.bend(0, behind, 9);
            int[] far = {0, 30, 9, 1, 101, 2, 0, 172, 9, 4, 202, 0};
            int[] near = {1, 101, 2, 0, 202 - behind, 9, 4, 202, 0};
            pulseIs("a RING " + behind + " behind a BEND", x, 0, behind == 30 ? far : near);
        }
    }

    private static void promise18SeenOfASplice() {
        for (int contrast = 1; contrast <= 7; contrast++) {
            Preformtower x = chain(3, 100);
            x.preform();
            x.soot(1, contrast, 1);
            x.soot(1, 0, 9);
            x.proof(x.draw(1, 101), 50);
            x.lay(1, 0, 1);
            x.splice(1, 0, 0, 0, 1, 4);
            pulseIs("SCATTER 23 and " + (20 + contrast), x, 0, 1, 101, 10 + 5 * (contrast - 3), 2, 202, 0);
            Check.due("18: SCATTER " + (20 + contrast) + " and 23", 10 - 5 * (contrast - 3), x.pulse(0, 0, 1, 0, 2));
        }
    }

    // ---- decibels

    private static void promise19Ranges() {
        Supplier<Preformtower> made = EdgesOfCablesTest::lines;
        Twin.range("19: CABLE", INDEX, made, 0, 2, (x, k) -> x.decibels(1, k, 0));
        Twin.range("19: COLOUR", INDEX, made, 0, 5, (x, k) -> x.decibels(1, 0, k));
        Twin.letsAll("19: SITE", made, (x, k) -> x.decibels(k, 0, 0), 0, 1);
        Twin.refusesAll("19: SITE", INDEX, made, (x, k) -> x.decibels(k, 0, 0), NO_SITES);
        Twin.refusesAll("19: no fibre of COLOUR", INDEX, made, (x, k) -> x.decibels(1, 0, k), 1, 4);
        Twin.refuses("19: no fibre at all", INDEX, () -> EdgesOfCablesTest.cables(1), x -> x.decibels(0, 0, 0));
    }

    private static void promise19TheEvenOneOfTwoAsNear() {
        double[][] due = {{3, 0.0}, {24, 0.0}, {25, 0.0}, {26, 0.5}, {49, 0.5}, {50, 0.5}, {51, 0.5}, {74, 0.5},
            {75, 1.0}, {76, 1.0}, {100, 1.0}, {124, 1.0}, {125, 1.0}, {126, 1.5}, {174, 1.5}, {175, 2.0}, {176, 2.0}};
        for (double[] row : due) {
            Preformtower x = chain(5, 100);
            x.bend(0, 50, (int) row[0] - 2);
            Check.due("19: the LOSS", (int) row[0], x.way(0, 0, 0, 0));
            Check.dueHalf("19: decibels of " + row[0], row[1], x.decibels(0, 0, 0));
            Check.dueHalf("19: from the other SITE", row[1], x.decibels(1, 0, 0));
        }
        Check.dueHalf("19: of no LOSS", 0.0, dug(5, 100, 1).decibels(0, 0, 0));
        int[] last = {22, 23, 24, 72, 73, 74};
        double[] many = {8.0, 8.0, 8.5, 8.5, 9.0, 9.0};
        for (int k = 0; k < last.length; k++) {
            Preformtower x = chain(5, 100, 100);
            for (int at = 1; at <= 4; at++) {
                x.bend(0, at, 200);
            }
            x.bend(1, 1, last[k] - 4);
            Check.dueHalf("19: of 800 and " + (last[k] + 2), many[k], x.decibels(0, 0, 0));
        }
    }

    private static void promise19WhateverItIsOverAt() {
        Preformtower x = EdgesOfCablesTest.lines();
        x.splice(0, 0, 0, 0, 5, 9);
        x.splice(1, 0, 0, 0, 5, 9);
        Check.dueHalf("19: of a RING, 2 and 42 and 2", 0.5, x.decibels(0, 0, 0));
        x.bend(0, 70, 50);
        Check.dueHalf("19: of a RING, 46 and twice 50", 1.5, x.decibels(0, 0, 0));
        x.bend(0, 20, 100);
        x.dig(0, 60);
        Check.dueHalf("19: of a BREAK, 100 and 1", 1.0, x.decibels(0, 0, 0));
        Check.dueHalf("19: from the other SITE, 50 and 1", 0.5, x.decibels(1, 0, 0));
    }

    // ---- many

    private static void promise20Ranges() {
        Twin.range("20: what", ARGUMENT, Preformtower::new, 0, 10, (x, k) -> x.many(k));
        Twin.range("20: what", ARGUMENT, EdgesOfCablesTest::sixColours, 0, 10, (x, k) -> x.many(k));
    }

    private static void manyIs(String name, Preformtower x, int... due) {
        for (int what = 0; what < due.length; what++) {
            Check.due("20: " + name + ", " + what, due[what], x.many(what));
        }
    }

    private static void promise20OfNothing() {
        manyIs("a new object", new Preformtower(), 0, 0, 0, 0, 0, 0, 0, 0, 0, 0, 0);
        manyIs("a PREFORM without LAYERS", EdgesOfGlassTest.layered(), 1, 0, 0, 0, 0, 0, 0, 0, 0, 0, 0);
        manyIs("a LAYER", EdgesOfGlassTest.layered(0, 1), 1, 0, 0, 0, 0, 0, 0, 0, 0, 0, 400);
        manyIs("a REEL", EdgesOfGlassTest.reels(1), 1, 1, 1, 0, 100, 0, 0, 0, 0, 0, 7100);
        manyIs("a CABLE", EdgesOfCablesTest.cables(1), 1, 0, 0, 0, 0, 1, 0, 0, 0, 0, 7200);
        manyIs("a fibre", chain(5, 100), 1, 1, 0, 0, 0, 1, 1, 0, 0, 0, 14800 - 101);
        manyIs("a SPLICE", chain(5, 100, 100), 1, 2, 0, 0, 0, 2, 2, 1, 2, 0, 14800 - 202);
        manyIs("a FAULT", bent(100, 1), 1, 1, 0, 0, 0, 1, 1, 0, 0, 1, 14800 - 101);
        Preformtower x = EdgesOfGlassTest.flawed(199, 99, 10);
        x.proof(0, 60);
        manyIs("SCRAP", x, 1, 2, 1, 1, 100, 0, 0, 0, 0, 0, 28800 - 199);
        Preformtower y = chain(5, 100, 100);
        y.part(1, 1, 0);
        manyIs("no SPLICE any more", y, 1, 2, 0, 0, 0, 2, 2, 0, 0, 0, 14800 - 202);
    }

    private static void promise20OfAllThatThereCanBe() {
        Preformtower x = RoomTest.full();
        Check.due("20: 6 PREFORMS", 6, x.many(0));
        Check.due("20: 20 REELS", 20, x.many(1));
        Check.due("20: none in STOCK", 0, x.many(2));
        Check.due("20: none is SCRAP", 0, x.many(3));
        Check.due("20: no LENGTH in STOCK", 0, x.many(4));
        Check.due("20: 5 CABLES", 5, x.many(5));
        Check.due("20: 20 fibres", 20, x.many(6));
        Check.due("20: 19 SPLICES", 19, x.many(7));
        Check.due("20: 4 FAULTS of each CABLE", 20, x.many(9));
        Check.due("20: GLASS of all", 6 * 7200 - 20 * 310, x.many(10));
        Check.due("20: the twentieth SPLICE, of 28 and 33 MODES", 2 + 15, x.splice(1, 4, 3, 0, 0, 0));
        Check.due("20: 20 SPLICES", 20, x.many(7));
        Check.due("20: a RING of 20", 20, x.way(1, 0, 0, 3));
        Check.due("20: over at a RING", 4, x.way(1, 0, 0, 4));
        Check.due("20: behind the last of 19 SPLICES", 6060, x.way(1, 0, 0, 1));
    }

    /** Some of all: STOCK and SCRAP with FLAWS, a RING, a WAY to a BREAK, JOINTS and BENDS. */
    static Preformtower ofAll() {
        Preformtower x = EdgesOfCablesTest.lines();
        x.proof(x.draw(0, 700), 60);
        x.flaw(6, 98, 80);
        x.flaw(6, 99, 10);
        x.flaw(6, 300, 70);
        x.proof(6, 20);
        x.splice(1, 0, 0, 1, 0, 3);
        x.splice(0, 2, 0, 2, 5, 0);
        x.splice(1, 2, 0, 2, 5, 0);
        x.dig(0, 35);
        x.mend(0);
        x.bend(0, 70, 8);
        x.dig(1, 50);
        x.preform();
        x.soot(1, 8, 2);
        return x;
    }

    private static void promise14To20ChangeNothing() {
        Supplier<Preformtower> made = EdgesOfAskingTest::ofAll;
        for (int k = 0; k <= 10; k++) {
            int what = k;
            Twin.onlyTells("14: ofPreform()", made, x -> x.ofPreform(what % 2, what % 6));
            Twin.onlyTells("15: ofReel()", made, x -> x.ofReel(6, what % 8));
            Twin.onlyTells("16: ofCable()", made, x -> x.ofCable(what % 3, what % 7));
            Twin.onlyTells("17: way() to a BREAK", made, x -> x.way(0, 0, 0, what % 8));
            Twin.onlyTells("17: way() into a RING", made, x -> x.way(0, 2, 0, what % 8));
            Twin.onlyTells("18: pulse()", made, x -> x.pulse(0, 0, 0, what / 3, what % 3));
            Twin.onlyTells("20: many()", made, x -> x.many(what));
        }
        Twin.onlyTells("19: decibels()", made, x -> x.decibels(0, 0, 0));
    }
}
