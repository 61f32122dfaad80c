/** Threads of glass from soot to a lit line: preforms, reels, cables, and what light loses on its way. */
public final class Preformtower {
    private static final int NONE = -1;
    private static final int NO_EVENT = -2;

    private static final int MOST_PREFORMS = 6;
    private static final int MOST_LAYERS = 8;
    private static final int MOST_INDEX = 20;
    private static final int MOST_THICK = 9;
    private static final int GLASS_OF_THICK = 400;
    private static final int BARE_SCATTER = 20;

    private static final int MOST_REELS = 20;
    private static final int MOST_FLAWS = 6;
    private static final int MOST_STRENGTH = 99;
    private static final int NO_FLAW_STRENGTH = 100;
    private static final int MOST_PULL = 100;
    private static final int SHORTEST_REEL = 100;
    private static final int LONGEST_DRAW = 20000;
    private static final int LEAST_PROOF_TO_LAY = 50;
    private static final int IN_STOCK = 0;
    private static final int IN_CABLE = 1;
    private static final int SCRAP = 2;

    private static final int SITES = 6;
    private static final int MOST_CABLES = 5;
    private static final int SHORTEST_CABLE = 100;
    private static final int LONGEST_CABLE = 9000;
    private static final int COLOURS = 6;
    private static final int MOST_FIBRES = MOST_CABLES * COLOURS;
    private static final int MOST_ENDS = 2 * MOST_FIBRES;
    private static final int MOST_ANGLE = 9;

    private static final int MOST_FAULTS = 4;
    private static final int BREAK = 0;
    private static final int BEND = 1;
    private static final int JOINT = 2;
    private static final int MOST_BEND_LOSS = 200;
    private static final int JOINT_LOSS = 5;

    private static final int AT_FAULT = 0;
    private static final int AT_SPLICE = 1;
    private static final int AT_END = 2;
    private static final int AT_BREAK = 3;
    private static final int AT_RING = 4;
    private static final int EVENT_GAP = 30;
    private static final int MOST_EVENTS = MOST_FIBRES * (MOST_FAULTS + 1);

    private final Preform[] preforms;
    private int preformCount;
    private final Reel[] reels;
    private int reelCount;
    private final Cable[] cables;
    private int cableCount;
    /** For each END the one that it is SPLICED to, or NONE; endOf tells how ENDS are numbered. */
    private final int[] mates;
    private final int[] mateLosses;
    /** Kept for all calls, so that asking makes no objects. */
    private final Walk there;
    private final Walk back;

    public Preformtower() {
        preforms = new Preform[MOST_PREFORMS];
        for (int k = 0; k < MOST_PREFORMS; k++) {
            preforms[k] = new Preform();
        }
        reels = new Reel[MOST_REELS];
        for (int k = 0; k < MOST_REELS; k++) {
            reels[k] = new Reel();
        }
        cables = new Cable[MOST_CABLES];
        for (int k = 0; k < MOST_CABLES; k++) {
            cables[k] = new Cable();
        }
        mates = new int[MOST_ENDS];
        for (int k = 0; k < MOST_ENDS; k++) {
            mates[k] = NONE;
        }
        mateLosses = new int[MOST_ENDS];
        there = new Walk();
        back = new Walk();
    }

    // ---- glass

    public int preform() throws IllegalStateException {
        if (preformCount >= MOST_PREFORMS) {
            throw new IllegalStateException("there are 6 PREFORMS");
        }
        preformCount++;
        return preformCount - 1;
    }

    public int soot(int preform, int index, int thick)
            throws IndexOutOfBoundsException, IllegalArgumentException, IllegalStateException {
        Preform it = knownPreform(preform);
        demandRange(index, 0, MOST_INDEX);
        demandRange(thick, 1, MOST_THICK);
        if (it.layers >= MOST_LAYERS) {
            throw new IllegalStateException("there are 8 LAYERS");
        }
        if (it.drawn > 0) {
            throw new IllegalStateException("it was drawn from");
        }
        it.addLayer(index, thick);
        return it.modesUnder(it.clad());
    }

    public int draw(int preform, int length)
            throws IndexOutOfBoundsException, IllegalArgumentException, IllegalStateException {
        Preform it = knownPreform(preform);
        demandRange(length, SHORTEST_REEL, LONGEST_DRAW);
        if (it.modesUnder(it.clad()) == 0) {
            throw new IllegalStateException("it has no CORE");
        }
        if (it.glass() < length) {
            throw new IllegalStateException("not so much GLASS");
        }
        if (reelCount >= MOST_REELS) {
            throw new IllegalStateException("there are 20 REELS");
        }
        it.drawn += length;
        addReel(preform, length, 0);
        return reelCount - 1;
    }

    public int flaw(int reel, int at, int strength)
            throws IndexOutOfBoundsException, IllegalArgumentException, IllegalStateException {
        Reel it = knownReel(reel);
        demandRange(at, 1, it.length - 1);
        demandRange(strength, 1, MOST_STRENGTH);
        if (it.where != IN_STOCK) {
            throw new IllegalStateException("it is not in STOCK");
        }
        if (it.flaws >= MOST_FLAWS) {
            throw new IllegalStateException("it has 6 FLAWS");
        }
        if (it.hasFlawAt(at)) {
            throw new IllegalStateException("it has a FLAW at that place");
        }
        it.addFlaw(at, strength);
        return it.flaws;
    }

    public int proof(int reel, int pull)
            throws IndexOutOfBoundsException, IllegalArgumentException, IllegalStateException {
        Reel it = knownReel(reel);
        demandRange(pull, 1, MOST_PULL);
        if (it.where != IN_STOCK) {
            throw new IllegalStateException("it is not in STOCK");
        }
        if (reelCount + it.flawsBelow(pull) > MOST_REELS) {
            throw new IllegalStateException("there would be more than 20 REELS");
        }
        return breakUp(it, pull);
    }

    // ---- cables

    public int cable(int from, int to, int length) throws IllegalArgumentException, IllegalStateException {
        demandRange(from, 0, SITES - 1);
        demandRange(to, 0, SITES - 1);
        if (from == to) {
            throw new IllegalArgumentException("both SITES are the same");
        }
        demandRange(length, SHORTEST_CABLE, LONGEST_CABLE);
        if (cableCount >= MOST_CABLES) {
            throw new IllegalStateException("there are 5 CABLES");
        }
        cables[cableCount].begin(from, to, length);
        cableCount++;
        return cableCount - 1;
    }

    public int lay(int reel, int cable, int colour)
            throws IndexOutOfBoundsException, IllegalArgumentException, IllegalStateException {
        Reel it = knownReel(reel);
        Cable into = knownCable(cable);
        demandRange(colour, 0, COLOURS - 1);
        if (into.reelOf[colour] != NONE) {
            throw new IllegalStateException("there is that COLOUR");
        }
        int fibre = into.fibreLength();
        if (!it.canBeLaid(fibre)) {
            throw new IllegalStateException("it is not in STOCK, of too little PROOF or too short");
        }
        int rest = keepRest(it, fibre);
        it.becomeFibre(fibre, cable, colour);
        into.reelOf[colour] = reel;
        return rest;
    }

    public int splice(int site, int one, int its, int other, int that, int angle)
            throws IndexOutOfBoundsException, IllegalArgumentException, IllegalStateException {
        int end = knownEnd(site, one, its);
        int mate = knownEnd(site, other, that);
        if (end == mate) {
            throw new IllegalArgumentException("both are the same fibre");
        }
        demandRange(angle, 0, MOST_ANGLE);
        if (mates[end] != NONE || mates[mate] != NONE) {
            throw new IllegalStateException("an END is in a SPLICE");
        }
        int apart = Math.abs(modesOf(end) - modesOf(mate));
        int loss = 2 + angle * angle / 2 + 3 * apart;
        mates[end] = mate;
        mates[mate] = end;
        mateLosses[end] = loss;
        mateLosses[mate] = loss;
        return loss;
    }

    public int part(int site, int cable, int colour) throws IndexOutOfBoundsException, IllegalStateException {
        int end = knownEnd(site, cable, colour);
        int mate = mates[end];
        if (mate < 0 || mate >= MOST_ENDS) {
            throw new IllegalStateException("that END is in no SPLICE");
        }
        mates[end] = NONE;
        mates[mate] = NONE;
        return mateLosses[end];
    }

    public int dig(int cable, int at)
            throws IndexOutOfBoundsException, IllegalArgumentException, IllegalStateException {
        Cable it = knownCable(cable);
        demandRange(at, 1, it.length - 1);
        return putFault(it, at, BREAK, 0);
    }

    public int bend(int cable, int at, int loss)
            throws IndexOutOfBoundsException, IllegalArgumentException, IllegalStateException {
        Cable it = knownCable(cable);
        demandRange(at, 1, it.length - 1);
        demandRange(loss, 1, MOST_BEND_LOSS);
        return putFault(it, at, BEND, loss);
    }

    public int mend(int cable) throws IndexOutOfBoundsException {
        Cable it = knownCable(cable);
        int joined = it.faultsOf(BREAK);
        it.mendFaults();
        return joined;
    }

    // ---- what is asked

    public int ofPreform(int preform, int what) throws IndexOutOfBoundsException, IllegalArgumentException {
        Preform it = knownPreform(preform);
        demandRange(what, 0, 5);
        return it.answer(what);
    }

    public int ofReel(int reel, int what) throws IndexOutOfBoundsException, IllegalArgumentException {
        Reel it = knownReel(reel);
        demandRange(what, 0, 7);
        return it.answer(what);
    }

    public int ofCable(int cable, int what) throws IndexOutOfBoundsException, IllegalArgumentException {
        Cable it = knownCable(cable);
        demandRange(what, 0, 6);
        return it.answer(what);
    }

    public int way(int site, int cable, int colour, int what)
            throws IndexOutOfBoundsException, IllegalArgumentException {
        int end = knownEnd(site, cable, colour);
        demandRange(what, 0, 7);
        follow(there, end);
        return there.answer(what);
    }

    public int pulse(int site, int cable, int colour, int event, int what)
            throws IndexOutOfBoundsException, IllegalArgumentException {
        int end = knownEnd(site, cable, colour);
        if (event < 0) {
            throw new IllegalArgumentException("event is below 0");
        }
        demandRange(what, 0, 2);
        follow(there, end);
        return there.eventAnswer(event, what);
    }

    public double decibels(int site, int cable, int colour) throws IndexOutOfBoundsException {
        follow(there, knownEnd(site, cable, colour));
        int halves = there.loss / 50;
        int over = there.loss % 50;
        if (over > 25 || over == 25 && halves % 2 == 1) {
            halves++;
        }
        return halves / 2.0;
    }

    public int many(int what) throws IllegalArgumentException {
        demandRange(what, 0, 10);
        return total(what);
    }

    // ---- what would be (nothing is changed)

    public int bestReel(int cable) throws IndexOutOfBoundsException {
        return shortestReelFor(knownCable(cable));
    }

    public int pieces(int length) throws IllegalArgumentException {
        demandRange(length, SHORTEST_CABLE, LONGEST_CABLE);
        return stockPieces(length);
    }

    public int single(int preform) throws IndexOutOfBoundsException {
        return knownPreform(preform).singleIndex();
    }

    public int locate(int site, int cable, int colour) throws IndexOutOfBoundsException {
        follow(there, knownEnd(site, cable, colour));
        return there.breakPlace();
    }

    public long digest() {
        long d = 58253;
        for (int what = 0; what <= 10; what++) {
            d = d * 31 + total(what);
        }
        for (int k = 0; k < preformCount; k++) {
            for (int what = 0; what <= 5; what++) {
                d = d * 31 + preforms[k].answer(what);
            }
            d = d * 31 + preforms[k].singleIndex();
        }
        for (int k = 0; k < reelCount; k++) {
            for (int what = 0; what <= 7; what++) {
                d = d * 31 + reels[k].answer(what);
            }
        }
        for (int k = 0; k < cableCount; k++) {
            d = digestCable(d, k);
        }
        return d * 31 + stockPieces(500);
    }

    private long digestCable(long before, int cable) {
        Cable it = cables[cable];
        long d = before;
        for (int what = 0; what <= 6; what++) {
            d = d * 31 + it.answer(what);
        }
        d = d * 31 + shortestReelFor(it);
        for (int colour = 0; colour < COLOURS; colour++) {
            if (it.reelOf[colour] != NONE) {
                follow(there, endOf(cable, colour, 0));
                follow(back, endOf(cable, colour, 1));
                d = digestWalks(d);
            }
        }
        return d;
    }

    private long digestWalks(long before) {
        long d = before;
        for (int what = 0; what <= 7; what++) {
            d = d * 31 + there.answer(what);
        }
        for (int what = 0; what <= 7; what++) {
            d = d * 31 + back.answer(what);
        }
        d = d * 31 + there.breakPlace();
        for (int event = 0; event <= 1; event++) {
            for (int what = 0; what <= 2; what++) {
                d = d * 31 + there.eventAnswer(event, what);
            }
        }
        return d;
    }

    // ---- what the calls share

    private static void demandRange(int value, int least, int most) {
        if (value < least || value > most) {
            throw new IllegalArgumentException("a number is out of its range");
        }
    }

    private Preform knownPreform(int preform) {
        if (preform < 0 || preform >= preformCount) {
            throw new IndexOutOfBoundsException("there is no such PREFORM");
        }
        return preforms[preform];
    }

    private Reel knownReel(int reel) {
        if (reel < 0 || reel >= reelCount) {
            throw new IndexOutOfBoundsException("there is no such REEL");
        }
        return reels[reel];
    }

    private Cable knownCable(int cable) {
        if (cable < 0 || cable >= cableCount) {
            throw new IndexOutOfBoundsException("there is no such CABLE");
        }
        return cables[cable];
    }

    private int knownEnd(int site, int cable, int colour) {
        Cable it = knownCable(cable);
        if (colour < 0 || colour >= COLOURS || it.reelOf[colour] == NONE) {
            throw new IndexOutOfBoundsException("there is no such fibre");
        }
        if (site != it.from && site != it.to) {
            throw new IndexOutOfBoundsException("the SITE is none of its CABLE");
        }
        return endOf(cable, colour, site == it.from ? 0 : 1);
    }

    /** Numbers the ENDS so that the two of a fibre differ in the lowest bit alone: 0 at the first SITE, 1 at the other. */
    private static int endOf(int cable, int colour, int side) {
        return (cable * COLOURS + colour) * 2 + side;
    }

    /** Callers see first that there are less than 20. */
    private Reel addReel(int preform, int length, int proof) {
        Reel it = reels[reelCount];
        reelCount++;
        it.begin(preform, length, proof);
        return it;
    }

    /** Callers see first that the pieces will be no more than 20 REELS; returns how many are no SCRAP. */
    private int breakUp(Reel first, int pull) {
        int proof = Math.max(first.proof, pull);
        int whole = first.length;
        int flaws = first.flaws;
        // The FLAWS are read on below: those of the first piece are the first ones, so writing them anew spoils none.
        first.flaws = 0;
        first.proof = proof;
        Reel piece = first;
        int begin = 0;
        int sound = 0;
        for (int k = 0; k < flaws; k++) {
            int at = first.flawAt[k];
            int strength = first.flawStrength[k];
            if (strength >= pull) {
                piece.addFlaw(at - begin, strength);
            } else {
                sound += piece.becomePiece(at - begin);
                piece = addReel(first.preform, 0, proof);
                begin = at;
            }
        }
        return sound + piece.becomePiece(whole - begin);
    }

    private int keepRest(Reel from, int fibre) {
        int length = from.length - fibre;
        if (length < SHORTEST_REEL || reelCount >= MOST_REELS) {
            return NONE;
        }
        Reel rest = addReel(from.preform, length, from.proof);
        for (int k = 0; k < from.flaws; k++) {
            if (from.flawAt[k] > fibre) {
                rest.addFlaw(from.flawAt[k] - fibre, from.flawStrength[k]);
            }
        }
        return reelCount - 1;
    }

    private static int putFault(Cable it, int at, int kind, int loss) {
        if (it.faults >= MOST_FAULTS) {
            throw new IllegalStateException("there are 4 FAULTS");
        }
        if (it.hasFaultAt(at)) {
            throw new IllegalStateException("there is a FAULT at that place");
        }
        it.addFault(at, kind, loss);
        return it.faults;
    }

    /** The PREFORM of the fibre that the END belongs to, or null if there is no such fibre. */
    private Preform glassAt(int end) {
        int fibre = end / 2;
        if (end < 0 || fibre >= MOST_FIBRES) {
            return null;
        }
        int reel = cables[fibre / COLOURS].reelOf[fibre % COLOURS];
        if (reel < 0 || reel >= reelCount) {
            return null;
        }
        int preform = reels[reel].preform;
        return preform >= 0 && preform < preformCount ? preforms[preform] : null;
    }

    private int modesOf(int end) {
        Preform glass = glassAt(end);
        return glass == null ? 0 : glass.modesUnder(glass.clad());
    }

    private int scatterOf(int end) {
        Preform glass = glassAt(end);
        return glass == null ? BARE_SCATTER : glass.scatter();
    }

    /** Goes THE WAY from an END, and tells it to the walk. */
    private void follow(Walk walk, int from) {
        walk.begin();
        int end = from;
        for (int k = 0; k < MOST_FIBRES && end >= 0 && end < MOST_ENDS; k++) {
            if (goAlong(walk, end)) {
                return;
            }
            int exit = end ^ 1;
            int next = mates[exit];
            if (next == NONE) {
                Cable last = cables[exit / 2 / COLOURS];
                walk.finish(AT_END, walk.length);
                walk.site = exit % 2 == 0 ? last.from : last.to;
                return;
            }
            // An END is in one SPLICE at most, so no fibre but the first one can be come to again.
            if (next / 2 == from / 2) {
                walk.finish(AT_RING, walk.length);
                return;
            }
            walk.passSplice(mateLosses[exit], scatterOf(next) - scatterOf(end));
            end = next;
        }
    }

    /** Goes along the fibre that begins at this END; returns whether the WAY is over at a BREAK in it. */
    private boolean goAlong(Walk walk, int end) {
        int cable = end / 2 / COLOURS;
        Cable it = cables[cable];
        boolean fromFirst = end % 2 == 0;
        int scatter = scatterOf(end);
        int begin = walk.length;
        int whole = it.fibreLength();
        walk.enter(cable, end / 2 % COLOURS);
        for (int k = 0; k < it.faults; k++) {
            int fault = fromFirst ? k : it.faults - 1 - k;
            int place = Cable.alongFibre(it.faultAt[fault]);
            int gone = fromFirst ? place : whole - place;
            if (it.faultKind[fault] == BREAK) {
                walk.leave(gone, scatter);
                walk.finish(AT_BREAK, begin + gone);
                walk.place = it.faultAt[fault];
                return true;
            }
            walk.passFault(begin + gone, it.faultLoss[fault]);
        }
        walk.leave(whole, scatter);
        return false;
    }

    private int shortestReelFor(Cable it) {
        int fibre = it.fibreLength();
        int best = NONE;
        int bestLength = 0;
        for (int k = 0; k < reelCount; k++) {
            if (reels[k].canBeLaid(fibre) && (best == NONE || reels[k].length < bestLength)) {
                best = k;
                bestLength = reels[k].length;
            }
        }
        return best;
    }

    private int stockPieces(int length) {
        int sum = 0;
        for (int k = 0; k < reelCount && length > 0; k++) {
            if (reels[k].where == IN_STOCK) {
                sum += reels[k].length / length;
            }
        }
        return sum;
    }

    private int total(int what) {
        switch (what) {
            case 0: return preformCount;
            case 1: return reelCount;
            case 2: return reelsThatAre(IN_STOCK);
            case 3: return reelsThatAre(SCRAP);
            case 4: return stockLength();
            case 5: return cableCount;
            case 6: return reelsThatAre(IN_CABLE);
            case 7: return splices();
            case 8: return spliceLosses();
            case 9: return faultsOfAll();
            default: return glassOfAll();
        }
    }

    private int reelsThatAre(int where) {
        int sum = 0;
        for (int k = 0; k < reelCount; k++) {
            if (reels[k].where == where) {
                sum++;
            }
        }
        return sum;
    }

    private int stockLength() {
        int sum = 0;
        for (int k = 0; k < reelCount; k++) {
            if (reels[k].where == IN_STOCK) {
                sum += reels[k].length;
            }
        }
        return sum;
    }

    private int splices() {
        int sum = 0;
        for (int end = 0; end < MOST_ENDS; end++) {
            // Of the two ENDS of a SPLICE, the one with the smaller number counts it.
            if (mates[end] > end) {
                sum++;
            }
        }
        return sum;
    }

    private int spliceLosses() {
        int sum = 0;
        for (int end = 0; end < MOST_ENDS; end++) {
            if (mates[end] > end) {
                sum += mateLosses[end];
            }
        }
        return sum;
    }

    private int faultsOfAll() {
        int sum = 0;
        for (int k = 0; k < cableCount; k++) {
            sum += cables[k].faults;
        }
        return sum;
    }

    private int glassOfAll() {
        int sum = 0;
        for (int k = 0; k < preformCount; k++) {
            sum += preforms[k].glass();
        }
        return sum;
    }

    private static final class Preform {
        final int[] index = new int[MOST_LAYERS];
        final int[] thick = new int[MOST_LAYERS];
        int layers;
        int drawn;

        /** Callers see first that there are less than 8. */
        void addLayer(int itsIndex, int itsThick) {
            index[layers] = itsIndex;
            thick[layers] = itsThick;
            layers++;
        }

        int clad() {
            return layers > 0 ? index[layers - 1] : 0;
        }

        /** The RADIUS if CLAD were that one: so it serves for a LAYER that is not there as well. */
        int radiusUnder(int clad) {
            int sum = 0;
            for (int k = 0; k < layers && index[k] > clad; k++) {
                sum += thick[k];
            }
            return sum;
        }

        int contrastUnder(int clad) {
            int most = 0;
            for (int k = 0; k < layers && index[k] > clad; k++) {
                if (index[k] - clad > most) {
                    most = index[k] - clad;
                }
            }
            return most;
        }

        int modesUnder(int clad) {
            int radius = radiusUnder(clad);
            return radius == 0 ? 0 : contrastUnder(clad) * radius * radius / 50 + 1;
        }

        int scatter() {
            return BARE_SCATTER + contrastUnder(clad());
        }

        int glass() {
            int sum = 0;
            for (int k = 0; k < layers; k++) {
                sum += thick[k];
            }
            return GLASS_OF_THICK * sum - drawn;
        }

        int singleIndex() {
            for (int clad = 0; clad <= MOST_INDEX; clad++) {
                if (modesUnder(clad) == 1) {
                    return clad;
                }
            }
            return NONE;
        }

        int answer(int what) {
            switch (what) {
                case 0: return layers;
                case 1: return radiusUnder(clad());
                case 2: return contrastUnder(clad());
                case 3: return modesUnder(clad());
                case 4: return scatter();
                default: return glass();
            }
        }
    }

    private static final class Reel {
        int preform;
        int length;
        int proof;
        int where;
        int cable = NONE;
        int colour = NONE;
        /** In the order of their places, as the pieces come in that order. */
        final int[] flawAt = new int[MOST_FLAWS];
        final int[] flawStrength = new int[MOST_FLAWS];
        int flaws;

        void begin(int itsPreform, int itsLength, int itsProof) {
            preform = itsPreform;
            length = itsLength;
            proof = itsProof;
        }

        boolean hasFlawAt(int at) {
            for (int k = 0; k < flaws; k++) {
                if (flawAt[k] == at) {
                    return true;
                }
            }
            return false;
        }

        /** Callers see first that there are less than 6. */
        void addFlaw(int at, int strength) {
            int spot = flaws;
            for (; spot > 0 && flawAt[spot - 1] > at; spot--) {
                flawAt[spot] = flawAt[spot - 1];
                flawStrength[spot] = flawStrength[spot - 1];
            }
            flawAt[spot] = at;
            flawStrength[spot] = strength;
            flaws++;
        }

        int flawsBelow(int pull) {
            int sum = 0;
            for (int k = 0; k < flaws; k++) {
                if (flawStrength[k] < pull) {
                    sum++;
                }
            }
            return sum;
        }

        int smallestStrength() {
            int least = NO_FLAW_STRENGTH;
            for (int k = 0; k < flaws; k++) {
                least = Math.min(least, flawStrength[k]);
            }
            return least;
        }

        /** Returns 1 if it is no SCRAP, 0 otherwise. */
        int becomePiece(int itsLength) {
            length = itsLength;
            where = itsLength < SHORTEST_REEL ? SCRAP : IN_STOCK;
            return where == SCRAP ? 0 : 1;
        }

        boolean canBeLaid(int fibre) {
            return where == IN_STOCK && proof >= LEAST_PROOF_TO_LAY && length >= fibre;
        }

        void becomeFibre(int fibre, int itsCable, int itsColour) {
            length = fibre;
            where = IN_CABLE;
            cable = itsCable;
            colour = itsColour;
            flaws = 0;
        }

        int answer(int what) {
            switch (what) {
                case 0: return preform;
                case 1: return length;
                case 2: return proof;
                case 3: return flaws;
                case 4: return where;
                case 5: return cable;
                case 6: return colour;
                default: return smallestStrength();
            }
        }
    }

    private static final class Cable {
        int from;
        int to;
        int length;
        final int[] reelOf = new int[COLOURS];
        /** In the order of their places, as light comes to them in that order, or in the opposite one. */
        final int[] faultAt = new int[MOST_FAULTS];
        final int[] faultKind = new int[MOST_FAULTS];
        final int[] faultLoss = new int[MOST_FAULTS];
        int faults;

        Cable() {
            for (int k = 0; k < COLOURS; k++) {
                reelOf[k] = NONE;
            }
        }

        void begin(int itsFrom, int itsTo, int itsLength) {
            from = itsFrom;
            to = itsTo;
            length = itsLength;
        }

        static int alongFibre(int metres) {
            return metres + metres / 100;
        }

        int fibreLength() {
            return alongFibre(length);
        }

        boolean hasFaultAt(int at) {
            for (int k = 0; k < faults; k++) {
                if (faultAt[k] == at) {
                    return true;
                }
            }
            return false;
        }

        /** Callers see first that there are less than 4. */
        void addFault(int at, int kind, int loss) {
            int spot = faults;
            for (; spot > 0 && faultAt[spot - 1] > at; spot--) {
                moveFault(spot - 1, spot);
            }
            faultAt[spot] = at;
            faultKind[spot] = kind;
            faultLoss[spot] = loss;
            faults++;
        }

        void mendFaults() {
            int kept = 0;
            for (int k = 0; k < faults; k++) {
                if (faultKind[k] != BEND) {
                    moveFault(k, kept);
                    faultKind[kept] = JOINT;
                    faultLoss[kept] = JOINT_LOSS;
                    kept++;
                }
            }
            faults = kept;
        }

        private void moveFault(int here, int there) {
            faultAt[there] = faultAt[here];
            faultKind[there] = faultKind[here];
            faultLoss[there] = faultLoss[here];
        }

        int faultsOf(int kind) {
            int sum = 0;
            for (int k = 0; k < faults; k++) {
                if (faultKind[k] == kind) {
                    sum++;
                }
            }
            return sum;
        }

        int colourSet() {
            int set = 0;
            for (int k = 0; k < COLOURS; k++) {
                if (reelOf[k] != NONE) {
                    set |= 1 << k;
                }
            }
            return set;
        }

        int answer(int what) {
            switch (what) {
                case 0: return from;
                case 1: return to;
                case 2: return length;
                case 3: return colourSet();
                case 4: return faultsOf(BREAK);
                case 5: return faultsOf(BEND);
                default: return faultsOf(JOINT);
            }
        }
    }

    /** What is told of one WAY, and of a PULSE along it. */
    private static final class Walk {
        int loss;
        int length;
        int splices;
        int fibres;
        int over;
        int site;
        int cable;
        int colour;
        int place;
        final int[] kind = new int[MOST_EVENTS];
        final int[] at = new int[MOST_EVENTS];
        final int[] seen = new int[MOST_EVENTS];
        int told;

        void begin() {
            loss = 0;
            length = 0;
            splices = 0;
            fibres = 0;
            over = AT_END;
            site = NONE;
            cable = 0;
            colour = 0;
            place = 0;
            told = 0;
        }

        void enter(int itsCable, int itsColour) {
            cable = itsCable;
            colour = itsColour;
            fibres++;
        }

        void leave(int gone, int scatter) {
            length += gone;
            loss += scatter * gone / 1000;
        }

        void passFault(int where, int itsLoss) {
            loss += itsLoss;
            tellIfApart(AT_FAULT, where, itsLoss);
        }

        void passSplice(int itsLoss, int moreScatter) {
            loss += itsLoss;
            splices++;
            tellIfApart(AT_SPLICE, length, itsLoss + 5 * moreScatter);
        }

        void finish(int itsKind, int where) {
            over = itsKind;
            tell(itsKind, where, 0);
        }

        private void tellIfApart(int itsKind, int where, int itsSeen) {
            int latest = told > 0 ? at[told - 1] : 0;
            if (where - latest >= EVENT_GAP) {
                tell(itsKind, where, itsSeen);
            }
        }

        private void tell(int itsKind, int where, int itsSeen) {
            if (told < MOST_EVENTS) {
                kind[told] = itsKind;
                at[told] = where;
                seen[told] = itsSeen;
                told++;
            }
        }

        int answer(int what) {
            switch (what) {
                case 0: return loss;
                case 1: return length;
                case 2: return splices;
                case 3: return fibres;
                case 4: return over;
                case 5: return site;
                case 6: return cable;
                default: return colour;
            }
        }

        int eventAnswer(int event, int what) {
            if (event < 0 || event >= told) {
                return NO_EVENT;
            }
            switch (what) {
                case 0: return kind[event];
                case 1: return at[event];
                default: return seen[event];
            }
        }

        int breakPlace() {
            return over == AT_BREAK ? 10000 * cable + place : NONE;
        }
    }
}
