/** Promises 14 to 20: what is asked. */
public final class AskedTest {
    public static void main(String[] args) {
        ofPreform();
        ofReel();
        ofCable();
        wayToAnEnd();
        wayIntoARing();
        wayToABreak();
        wayPastFaults();
        wayRoundsDown();
        wayOverAll();
        wayWrong();
        pulseAtSplices();
        pulseTellsWhatIsApart();
        pulseWrong();
        decibels();
        many();
        Check.end(14, 20);
    }

    /** The three cables of a ring, SPLICED at SITES 1 (LOSS 41) and 2 (LOSS 43), not at 0. */
    static Preformtower withWay() {
        Preformtower x = CablesTest.withRing();
        x.splice(1, 0, 0, 1, 0, 0);
        x.splice(2, 1, 0, 2, 0, 2);
        return x;
    }

    private static void ofPreform() {
        Preformtower x = new Preformtower();
        x.preform();
        x.preform();
        answers(x, 1, 0, 0, 0, 0, 20, 0);
        x.soot(1, 12, 3);
        answers(x, 1, 1, 0, 0, 0, 20, 1200);
        x.soot(1, 20, 4);
        x.soot(1, 7, 2);
        answers(x, 1, 3, 7, 13, 13 * 49 / 50 + 1, 33, 3600);
        x.draw(1, 1001);
        answers(x, 1, 3, 7, 13, 13, 33, 2599);
        answers(x, 0, 0, 0, 0, 0, 20, 0);
        Check.refuses(x, "14: PREFORM -1", Check.INDEX, () -> x.ofPreform(-1, 0));
        Check.refuses(x, "14: PREFORM 2", Check.INDEX, () -> x.ofPreform(2, 6));
        Check.refuses(x, "14: what -1", Check.ARGUMENT, () -> x.ofPreform(0, -1));
        Check.refuses(x, "14: what 6", Check.ARGUMENT, () -> x.ofPreform(0, 6));
    }

    private static void answers(Preformtower x, int preform, int... due) {
        for (int what = 0; what < due.length; what++) {
            Check.due("14: ofPreform(" + preform + ", " + what + ")", due[what], x.ofPreform(preform, what));
        }
    }

    private static void ofReel() {
        Preformtower x = CablesTest.withReels();
        x.flaw(1, 700, 80);
        x.flaw(1, 150, 99);
        x.flaw(1, 900, 62);
        int[] stock = {1, 2000, 60, 3, 0, -1, -1, 62};
        for (int what = 0; what <= 7; what++) {
            Check.due("15: in STOCK, " + what, stock[what], x.ofReel(1, what));
        }
        x.cable(0, 1, 100);
        x.cable(0, 1, 1000);
        x.lay(1, 1, 4);
        int[] laid = {1, 1010, 60, 0, 1, 1, 4, 100};
        for (int what = 0; what <= 7; what++) {
            Check.due("15: in a CABLE, " + what, laid[what], x.ofReel(1, what));
        }
        x.flaw(0, 99, 5);
        x.flaw(0, 50, 85);
        x.proof(0, 70);
        int[] scrap = {0, 99, 70, 1, 2, -1, -1, 85};
        for (int what = 0; what <= 7; what++) {
            Check.due("15: SCRAP, " + what, scrap[what], x.ofReel(0, what));
        }
        Check.refuses(x, "15: REEL -1", Check.INDEX, () -> x.ofReel(-1, 0));
        Check.refuses(x, "15: REEL 4", Check.INDEX, () -> x.ofReel(4, 8));
        Check.refuses(x, "15: what -1", Check.ARGUMENT, () -> x.ofReel(0, -1));
        Check.refuses(x, "15: what 8", Check.ARGUMENT, () -> x.ofReel(0, 8));
    }

    private static void ofCable() {
        Preformtower x = CablesTest.withReels();
        x.cable(4, 2, 150);
        x.cable(2, 3, 100);
        x.lay(0, 0, 5);
        x.lay(2, 0, 0);
        x.lay(3, 0, 3);
        x.dig(0, 10);
        x.mend(0);
        x.dig(0, 20);
        x.dig(0, 21);
        x.bend(0, 5, 5);
        int[] due = {4, 2, 150, 1 + 8 + 32, 2, 1, 1};
        int[] other = {2, 3, 100, 0, 0, 0, 0};
        for (int what = 0; what <= 6; what++) {
            Check.due("16: ofCable(0, " + what + ")", due[what], x.ofCable(0, what));
            Check.due("16: ofCable(1, " + what + ")", other[what], x.ofCable(1, what));
        }
        Check.refuses(x, "16: CABLE -1", Check.INDEX, () -> x.ofCable(-1, 0));
        Check.refuses(x, "16: CABLE 2", Check.INDEX, () -> x.ofCable(2, 7));
        Check.refuses(x, "16: what -1", Check.ARGUMENT, () -> x.ofCable(0, -1));
        Check.refuses(x, "16: what 7", Check.ARGUMENT, () -> x.ofCable(0, 7));
    }

    private static void wayIs(Preformtower x, int site, int cable, int colour, int... due) {
        for (int what = 0; what < due.length; what++) {
            Check.due("17: way(" + site + ", " + cable + ", " + colour + ", " + what + ")",
                due[what], x.way(site, cable, colour, what));
        }
    }

    // The fibres are 101, 202 and 303 long, their SCATTER 29, 22, 29: they lose 2, 4 and 8.
    private static void wayToAnEnd() {
        Preformtower x = CablesTest.withRing();
        wayIs(x, 0, 0, 0, 2, 101, 0, 1, 2, 1, 0, 0);
        wayIs(x, 1, 0, 0, 2, 101, 0, 1, 2, 0, 0, 0);
        wayIs(x, 2, 2, 0, 8, 303, 0, 1, 2, 0, 2, 0);
        Preformtower y = withWay();
        wayIs(y, 0, 0, 0, 2 + 41 + 4 + 43 + 8, 606, 2, 3, 2, 0, 2, 0);
        wayIs(y, 0, 2, 0, 8 + 43 + 4 + 41 + 2, 606, 2, 3, 2, 0, 0, 0);
        wayIs(y, 1, 0, 0, 2, 101, 0, 1, 2, 0, 0, 0);
        wayIs(y, 2, 1, 0, 4 + 41 + 2, 303, 1, 2, 2, 0, 0, 0);
        y.lay(4, 0, 5);
        y.splice(0, 2, 0, 0, 5, 1);
        wayIs(y, 0, 0, 0, 98 + 2 + 2, 707, 3, 4, 2, 1, 0, 5);
        wayIs(y, 0, 0, 5, 2, 101, 0, 1, 2, 1, 0, 5);
        y.part(2, 2, 0);
        wayIs(y, 0, 0, 0, 47, 303, 1, 2, 2, 2, 1, 0);
    }

    private static void wayIntoARing() {
        Preformtower x = withWay();
        x.splice(0, 2, 0, 0, 0, 3);
        wayIs(x, 0, 0, 0, 98, 606, 2, 3, 4, -1, 2, 0);
        wayIs(x, 1, 0, 0, 2 + 6 + 8 + 43 + 4, 606, 2, 3, 4, -1, 1, 0);
        wayIs(x, 2, 1, 0, 4 + 41 + 2 + 6 + 8, 606, 2, 3, 4, -1, 2, 0);
        x.lay(4, 1, 2);
        wayIs(x, 1, 1, 2, 5, 202, 0, 1, 2, 2, 1, 2);
    }

    private static void wayToABreak() {
        Preformtower x = withWay();
        x.dig(1, 150);
        // 151 along the fibre; from the other END 51.
        wayIs(x, 0, 0, 0, 2 + 41 + 3, 252, 1, 2, 3, -1, 1, 0);
        wayIs(x, 1, 1, 0, 3, 151, 0, 1, 3, -1, 1, 0);
        wayIs(x, 2, 1, 0, 1, 51, 0, 1, 3, -1, 1, 0);
        wayIs(x, 0, 2, 0, 8 + 43 + 1, 354, 1, 2, 3, -1, 1, 0);
        x.dig(1, 20);
        wayIs(x, 1, 1, 0, 0, 20, 0, 1, 3, -1, 1, 0);
        wayIs(x, 2, 1, 0, 1, 51, 0, 1, 3, -1, 1, 0);
        x.splice(0, 2, 0, 0, 0, 0);
        wayIs(x, 1, 0, 0, 2 + 2 + 8 + 43 + 1, 455, 2, 3, 3, -1, 1, 0);
        x.mend(1);
        wayIs(x, 0, 0, 0, 98 + 10, 606, 2, 3, 4, -1, 2, 0);
    }

    private static void wayPastFaults() {
        Preformtower x = withWay();
        x.bend(1, 199, 100);
        x.dig(1, 1);
        x.mend(1);
        x.bend(1, 50, 30);
        x.bend(1, 120, 200);
        wayIs(x, 0, 0, 0, 98 + 5 + 30 + 200, 606, 2, 3, 2, 0, 2, 0);
        x.dig(1, 100);
        wayIs(x, 0, 0, 0, 2 + 41 + 5 + 30 + 2, 202, 1, 2, 3, -1, 1, 0);
        wayIs(x, 2, 1, 0, 200 + 2, 101, 0, 1, 3, -1, 1, 0);
    }

    private static void wayRoundsDown() {
        // SCATTER 29: 29 * 1000 is just 29 times 1000, 29 * 931 is 1 less than 27 times 1000.
        Preformtower x = GlassTest.withGlass();
        x.proof(x.draw(0, 3000), 60);
        x.cable(0, 1, 991);
        x.cable(0, 1, 922);
        x.lay(0, 0, 0);
        x.lay(1, 1, 0);
        wayIs(x, 0, 0, 0, 29, 1000, 0, 1, 2, 1, 0, 0);
        wayIs(x, 0, 1, 0, 26, 931, 0, 1, 2, 1, 1, 0);
    }

    private static void wayOverAll() {
        Preformtower x = RoomTest.full();
        // Twenty fibres of 303, four BENDS in each, nineteen SPLICES, all 30 apart or more.
        Check.due("17: how long", 6060, x.way(1, 0, 0, 1));
        Check.due("17: SPLICES", 19, x.way(1, 0, 0, 2));
        Check.due("17: fibres", 20, x.way(1, 0, 0, 3));
        Check.due("17: from behind", 6060, x.way(1, 4, 3, 1));
        Check.due("18: the last SPLICE", 1, x.pulse(1, 0, 0, 94, 0));
        Check.due("18: the last EVENT", 2, x.pulse(1, 0, 0, 99, 0));
        Check.due("18: how long", 6060, x.pulse(1, 0, 0, 99, 1));
        Check.due("18: none behind it", -2, x.pulse(1, 0, 0, 100, 0));
    }

    private static void wayWrong() {
        Preformtower x = withWay();
        Check.refuses(x, "17: CABLE 3", Check.INDEX, () -> x.way(0, 3, 0, 8));
        Check.refuses(x, "17: CABLE -1", Check.INDEX, () -> x.way(0, -1, 0, 0));
        Check.refuses(x, "17: no such fibre", Check.INDEX, () -> x.way(0, 0, 1, 0));
        Check.refuses(x, "17: COLOUR -1", Check.INDEX, () -> x.way(0, 0, -1, 0));
        Check.refuses(x, "17: COLOUR 6", Check.INDEX, () -> x.way(0, 0, 6, 0));
        Check.refuses(x, "17: the SITE is none of its CABLE", Check.INDEX, () -> x.way(2, 0, 0, 8));
        Check.refuses(x, "17: SITE -1", Check.INDEX, () -> x.way(-1, 0, 0, 0));
        Check.refuses(x, "17: what -1", Check.ARGUMENT, () -> x.way(0, 0, 0, -1));
        Check.refuses(x, "17: what 8", Check.ARGUMENT, () -> x.way(0, 0, 0, 8));
    }

    /** Kind, how long, SEEN of each EVENT, and then none any more. */
    private static void pulseIs(Preformtower x, int site, int cable, int colour, int... due) {
        int events = due.length / 3;
        for (int event = 0; event <= events; event++) {
            for (int what = 0; what <= 2; what++) {
                int want = event < events ? due[event * 3 + what] : -2;
                Check.due("18: pulse(" + site + ", " + cable + ", " + colour + ", " + event + ", " + what + ")",
                    want, x.pulse(site, cable, colour, event, what));
            }
        }
    }

    private static void pulseAtSplices() {
        Preformtower x = withWay();
        pulseIs(x, 0, 0, 0, 1, 101, 41 - 35, 1, 303, 43 + 35, 2, 606, 0);
        pulseIs(x, 0, 2, 0, 1, 303, 43 - 35, 1, 505, 41 + 35, 2, 606, 0);
        pulseIs(x, 1, 0, 0, 2, 101, 0);
        x.splice(0, 2, 0, 0, 0, 0);
        pulseIs(x, 0, 0, 0, 1, 101, 6, 1, 303, 78, 4, 606, 0);
        x.dig(2, 200);
        pulseIs(x, 0, 0, 0, 1, 101, 6, 1, 303, 78, 3, 505, 0);
        pulseIs(x, 1, 0, 0, 1, 101, 2, 3, 202, 0);
        Check.due("18: far behind the last one", -2, x.pulse(0, 0, 0, Integer.MAX_VALUE, 0));
        // CONTRAST 9 and 1, both of few MODES: from the one to the other less is seen than nothing.
        Preformtower y = new Preformtower();
        for (int index = 9; index >= 1; index -= 8) {
            int preform = y.preform();
            y.soot(preform, index, 2);
            y.soot(preform, 0, 9);
            y.proof(y.draw(preform, 300), 50);
        }
        y.cable(3, 4, 100);
        y.lay(0, 0, 0);
        y.lay(1, 0, 1);
        y.splice(4, 0, 0, 0, 1, 0);
        pulseIs(y, 3, 0, 0, 1, 101, 2 - 40, 2, 202, 0);
        pulseIs(y, 3, 0, 1, 1, 101, 2 + 40, 2, 202, 0);
    }

    private static void pulseTellsWhatIsApart() {
        Preformtower x = withWay();
        x.bend(2, 29, 1);
        x.bend(2, 30, 2);
        x.bend(2, 59, 3);
        x.bend(2, 60, 4);
        pulseIs(x, 2, 2, 0, 0, 30, 2, 0, 60, 4, 2, 303, 0);
        // From the other END: 243, 244, 273, 274; the SPLICE comes 29 behind the last but one.
        pulseIs(x, 0, 2, 0, 0, 243, 4, 0, 273, 2, 1, 303, 8, 1, 505, 76, 2, 606, 0);
        x.dig(1, 185);
        // 186 along a fibre of 202, 16 behind the SPLICE: the last one of all is told.
        pulseIs(x, 0, 2, 0, 0, 243, 4, 0, 273, 2, 1, 303, 8, 3, 319, 0);
        pulseIs(x, 2, 1, 0, 3, 16, 0);
        Preformtower y = withWay();
        y.bend(0, 72, 7);
        pulseIs(y, 0, 0, 0, 0, 72, 7, 1, 303, 78, 2, 606, 0);
        y.mend(0);
        y.bend(0, 71, 7);
        pulseIs(y, 0, 0, 0, 0, 71, 7, 1, 101, 6, 1, 303, 78, 2, 606, 0);
        y.dig(1, 1);
        y.dig(1, 9);
        y.mend(1);
        y.bend(1, 60, 9);
        // What is not told moves nothing: 110 is 9 behind 101, 161 is 60.
        pulseIs(y, 0, 0, 0, 0, 71, 7, 1, 101, 6, 0, 161, 9, 1, 303, 78, 2, 606, 0);
        Check.due("18: what is not told is lost all the same", 98 + 7 + 5 + 5 + 9, y.way(0, 0, 0, 0));
    }

    private static void pulseWrong() {
        Preformtower x = withWay();
        Check.refuses(x, "18: CABLE 3", Check.INDEX, () -> x.pulse(0, 3, 0, -1, 3));
        Check.refuses(x, "18: CABLE -1", Check.INDEX, () -> x.pulse(0, -1, 0, 0, 0));
        Check.refuses(x, "18: no such fibre", Check.INDEX, () -> x.pulse(0, 0, 1, -1, 0));
        Check.refuses(x, "18: COLOUR 6", Check.INDEX, () -> x.pulse(0, 0, 6, 0, 0));
        Check.refuses(x, "18: the SITE is none of its CABLE", Check.INDEX, () -> x.pulse(2, 0, 0, -1, 0));
        Check.refuses(x, "18: event -1", Check.ARGUMENT, () -> x.pulse(0, 0, 0, -1, 0));
        Check.refuses(x, "18: what -1", Check.ARGUMENT, () -> x.pulse(0, 0, 0, 0, -1));
        Check.refuses(x, "18: what 3", Check.ARGUMENT, () -> x.pulse(0, 0, 0, 9, 3));
    }

    private static void decibels() {
        int[] losses = {22, 23, 24, 72, 73, 74, 98, 122, 123, 124, 172, 173, 174};
        double[] due = {0.0, 0.0, 0.5, 0.5, 1.0, 1.0, 1.0, 1.0, 1.0, 1.5, 1.5, 2.0, 2.0};
        for (int k = 0; k < losses.length; k++) {
            Preformtower x = CablesTest.withRing();
            // The fibre itself loses 2.
            x.bend(0, 50, losses[k]);
            Check.dueHalf("19: of " + (losses[k] + 2), due[k], x.decibels(0, 0, 0));
        }
        Preformtower x = withWay();
        Check.dueHalf("19: of 2", 0.0, x.decibels(1, 0, 0));
        Check.dueHalf("19: of 98", 1.0, x.decibels(0, 0, 0));
        Check.refuses(x, "19: CABLE 3", Check.INDEX, () -> x.decibels(0, 3, 0));
        Check.refuses(x, "19: CABLE -1", Check.INDEX, () -> x.decibels(0, -1, 0));
        Check.refuses(x, "19: no such fibre", Check.INDEX, () -> x.decibels(0, 0, 1));
        Check.refuses(x, "19: COLOUR 6", Check.INDEX, () -> x.decibels(0, 0, 6));
        Check.refuses(x, "19: the SITE is none of its CABLE", Check.INDEX, () -> x.decibels(2, 0, 0));
    }

    private static void many() {
        Preformtower x = withWay();
        x.preform();
        x.soot(2, 5, 3);
        x.flaw(4, 50, 10);
        x.proof(4, 55);
        x.dig(2, 7);
        x.bend(0, 7, 7);
        x.dig(1, 9);
        x.mend(1);
        // REELS: three fibres, 3 (2000 - 202), 4 (50, SCRAP), 5 (2000 - 101 - 303 - 50).
        int[] due = {3, 6, 2, 1, 1798 + 1546, 3, 3, 2, 84, 3, 5200 + 3600 + 1200};
        for (int what = 0; what <= 10; what++) {
            Check.due("20: many(" + what + ")", due[what], x.many(what));
        }
        Preformtower y = GlassTest.withGlass();
        y.draw(0, 700);
        y.draw(0, 100);
        Check.due("20: LENGTHS from the first REEL on", 800, y.many(4));
        Check.refuses(x, "20: what -1", Check.ARGUMENT, () -> x.many(-1));
        Check.refuses(x, "20: what 11", Check.ARGUMENT, () -> x.many(11));
    }
}
