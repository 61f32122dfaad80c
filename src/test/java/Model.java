import java.util.ArrayList;
import java.util.Comparator;
import java.util.HashMap;
import java.util.LinkedHashSet;
import java.util.List;
import java.util.Map;
import java.util.Set;
import java.util.TreeMap;
import java.util.stream.IntStream;

/** A second reading of the document, with the library's collections and without care for room or speed. */
final class Model {
    record Layer(int index, int thick) { }

    record Fault(int kind, int loss) { }

    record Fibre(int cable, int colour) { }

    record End(Fibre fibre, int site) { }

    record Event(int kind, int distance, int seen) { }

    static final class Splice {
        End one;
        End other;
        int loss;
    }

    static final class Glass {
        List<Layer> layers = new ArrayList<>();
        int drawn = 0;
    }

    static final class Reel {
        int preform;
        int length;
        int proof;
        int where = 0;
        TreeMap<Integer, Integer> flaws = new TreeMap<>();
        Fibre fibre = null;
    }

    static final class Line {
        int from;
        int to;
        int length;
        TreeMap<Integer, Fault> faults = new TreeMap<>();

        int fibre() {
            return length + length / 100;
        }
    }

    static final class Way {
        int loss = 0;
        int length = 0;
        int splices = 0;
        Set<Fibre> fibres = new LinkedHashSet<>();
        Fibre last;
        int site = -1;
        int place = -1;
        List<Event> all = new ArrayList<>();

        Event over() {
            return all.get(all.size() - 1);
        }
    }

    final List<Glass> preforms = new ArrayList<>();
    final List<Reel> reels = new ArrayList<>();
    final List<Line> cables = new ArrayList<>();
    final Map<Fibre, Reel> laid = new HashMap<>();
    final List<Splice> spliced = new ArrayList<>();

    private static void index(boolean good) {
        if (!good) {
            throw new IndexOutOfBoundsException();
        }
    }

    private static void argument(boolean good) {
        if (!good) {
            throw new IllegalArgumentException();
        }
    }

    private static void state(boolean good) {
        if (!good) {
            throw new IllegalStateException();
        }
    }

    private static boolean within(int value, int least, int most) {
        return least <= value && value <= most;
    }

    private static <T> T known(List<T> all, int number) {
        index(within(number, 0, all.size() - 1));
        return all.get(number);
    }

    private Fibre knownFibre(int site, int cable, int colour) {
        Line line = known(cables, cable);
        Fibre fibre = new Fibre(cable, colour);
        index(laid.containsKey(fibre));
        index(line.from == site || line.to == site);
        return fibre;
    }

    // ---- what a preform is

    private static List<Layer> core(List<Layer> layers) {
        List<Layer> core = new ArrayList<>();
        if (!layers.isEmpty()) {
            int clad = layers.get(layers.size() - 1).index();
            for (Layer layer : layers) {
                if (layer.index() <= clad) {
                    break;
                }
                core.add(layer);
            }
        }
        return core;
    }

    private static int radius(List<Layer> layers) {
        return core(layers).stream().mapToInt(Layer::thick).sum();
    }

    private static int contrast(List<Layer> layers) {
        List<Layer> core = core(layers);
        if (core.isEmpty()) {
            return 0;
        }
        return core.stream().mapToInt(Layer::index).max().getAsInt() - layers.get(layers.size() - 1).index();
    }

    private static int modes(List<Layer> layers) {
        return core(layers).isEmpty() ? 0 : contrast(layers) * radius(layers) * radius(layers) / 50 + 1;
    }

    private static int scatter(Glass glass) {
        return 20 + contrast(glass.layers);
    }

    private static int glassLeft(Glass glass) {
        return 400 * glass.layers.stream().mapToInt(Layer::thick).sum() - glass.drawn;
    }

    private Glass glassOf(Fibre fibre) {
        return preforms.get(laid.get(fibre).preform);
    }

    // ---- glass

    public int preform() {
        state(preforms.size() != 6);
        preforms.add(new Glass());
        return preforms.size() - 1;
    }

    public int soot(int preform, int index, int thick) {
        Glass glass = known(preforms, preform);
        argument(within(index, 0, 20) && within(thick, 1, 9));
        state(glass.layers.size() != 8 && glass.drawn == 0);
        glass.layers.add(new Layer(index, thick));
        return modes(glass.layers);
    }

    public int draw(int preform, int length) {
        Glass glass = known(preforms, preform);
        argument(within(length, 100, 20000));
        state(!core(glass.layers).isEmpty() && glassLeft(glass) >= length && reels.size() != 20);
        glass.drawn += length;
        Reel reel = new Reel();
        reel.preform = preform;
        reel.length = length;
        reels.add(reel);
        return reels.size() - 1;
    }

    public int flaw(int reel, int at, int strength) {
        Reel it = known(reels, reel);
        argument(within(at, 1, it.length - 1) && within(strength, 1, 99));
        state(it.where == 0 && it.flaws.size() != 6 && !it.flaws.containsKey(at));
        it.flaws.put(at, strength);
        return it.flaws.size();
    }

    public int proof(int reel, int pull) {
        Reel it = known(reels, reel);
        argument(within(pull, 1, 100));
        List<Integer> cuts = new ArrayList<>();
        cuts.add(0);
        it.flaws.forEach((at, strength) -> {
            if (strength < pull) {
                cuts.add(at);
            }
        });
        state(it.where == 0 && reels.size() + cuts.size() - 1 <= 20);
        cuts.add(it.length);
        List<Reel> pieces = new ArrayList<>();
        for (int k = 0; k + 1 < cuts.size(); k++) {
            Reel piece = new Reel();
            int begin = cuts.get(k);
            piece.preform = it.preform;
            piece.length = cuts.get(k + 1) - begin;
            piece.proof = it.proof > pull ? it.proof : pull;
            piece.where = piece.length < 100 ? 2 : 0;
            it.flaws.subMap(begin, false, cuts.get(k + 1), false).forEach((at, s) -> piece.flaws.put(at - begin, s));
            pieces.add(piece);
        }
        reels.set(reel, pieces.get(0));
        reels.addAll(pieces.subList(1, pieces.size()));
        return (int) pieces.stream().filter(p -> p.where != 2).count();
    }

    // ---- cables

    public int cable(int from, int to, int length) {
        argument(within(from, 0, 5) && within(to, 0, 5) && from != to && within(length, 100, 9000));
        state(cables.size() != 5);
        Line line = new Line();
        line.from = from;
        line.to = to;
        line.length = length;
        cables.add(line);
        return cables.size() - 1;
    }

    private static boolean fits(Reel reel, Line line) {
        return reel.where == 0 && reel.proof >= 50 && reel.length >= line.fibre();
    }

    public int lay(int reel, int cable, int colour) {
        Reel it = known(reels, reel);
        Line line = known(cables, cable);
        argument(within(colour, 0, 5));
        Fibre fibre = new Fibre(cable, colour);
        state(!laid.containsKey(fibre) && fits(it, line));
        int answer = -1;
        if (it.length - line.fibre() >= 100 && reels.size() < 20) {
            Reel rest = new Reel();
            rest.preform = it.preform;
            rest.length = it.length - line.fibre();
            rest.proof = it.proof;
            it.flaws.tailMap(line.fibre(), false).forEach((at, s) -> rest.flaws.put(at - line.fibre(), s));
            answer = reels.size();
            reels.add(rest);
        }
        it.length = line.fibre();
        it.flaws.clear();
        it.where = 1;
        it.fibre = fibre;
        laid.put(fibre, it);
        return answer;
    }

    private Splice spliceAt(End end) {
        return spliced.stream().filter(s -> s.one.equals(end) || s.other.equals(end)).findFirst().orElse(null);
    }

    public int splice(int site, int one, int its, int other, int that, int angle) {
        End end = new End(knownFibre(site, one, its), site);
        End mate = new End(knownFibre(site, other, that), site);
        argument(!end.fibre().equals(mate.fibre()) && within(angle, 0, 9));
        state(spliceAt(end) == null && spliceAt(mate) == null);
        Splice made = new Splice();
        made.one = end;
        made.other = mate;
        int difference = modes(glassOf(end.fibre()).layers) - modes(glassOf(mate.fibre()).layers);
        made.loss = 2 + (angle * angle) / 2 + 3 * (difference < 0 ? -difference : difference);
        spliced.add(made);
        return made.loss;
    }

    public int part(int site, int cable, int colour) {
        Splice it = spliceAt(new End(knownFibre(site, cable, colour), site));
        state(it != null);
        spliced.remove(it);
        return it.loss;
    }

    public int dig(int cable, int at) {
        Line line = known(cables, cable);
        argument(within(at, 1, line.length - 1));
        return fault(line, at, new Fault(3, 0));
    }

    public int bend(int cable, int at, int loss) {
        Line line = known(cables, cable);
        argument(within(at, 1, line.length - 1) && within(loss, 1, 200));
        return fault(line, at, new Fault(1, loss));
    }

    private static int fault(Line line, int at, Fault fault) {
        state(line.faults.size() != 4 && !line.faults.containsKey(at));
        line.faults.put(at, fault);
        return line.faults.size();
    }

    private static int faults(Line line, int kind) {
        return (int) line.faults.values().stream().filter(f -> f.kind() == kind).count();
    }

    public int mend(int cable) {
        Line line = known(cables, cable);
        int breaks = faults(line, 3);
        line.faults.values().removeIf(f -> f.kind() == 1);
        line.faults.replaceAll((at, f) -> new Fault(2, 5));
        return breaks;
    }

    // ---- what is asked

    public int ofPreform(int preform, int what) {
        Glass glass = known(preforms, preform);
        argument(within(what, 0, 5));
        int[] answers = {glass.layers.size(), radius(glass.layers), contrast(glass.layers), modes(glass.layers),
            scatter(glass), glassLeft(glass)};
        return answers[what];
    }

    public int ofReel(int reel, int what) {
        Reel it = known(reels, reel);
        argument(within(what, 0, 7));
        int weakest = it.flaws.values().stream().min(Comparator.naturalOrder()).orElse(100);
        int[] answers = {it.preform, it.length, it.proof, it.flaws.size(), it.where,
            it.fibre == null ? -1 : it.fibre.cable(), it.fibre == null ? -1 : it.fibre.colour(), weakest};
        return answers[what];
    }

    public int ofCable(int cable, int what) {
        Line line = known(cables, cable);
        argument(within(what, 0, 6));
        int colours = laid.keySet().stream().filter(f -> f.cable() == cable).mapToInt(f -> 1 << f.colour()).sum();
        int[] answers = {line.from, line.to, line.length, colours, faults(line, 3), faults(line, 1), faults(line, 2)};
        return answers[what];
    }

    private Way walk(int site, int cable, int colour) {
        Way way = new Way();
        Fibre here = knownFibre(site, cable, colour);
        int at = site;
        while (true) {
            Line line = cables.get(here.cable());
            way.fibres.add(here);
            way.last = here;
            int scatter = scatter(glassOf(here));
            TreeMap<Integer, Integer> placeOf = new TreeMap<>();
            for (int place : line.faults.keySet()) {
                int along = place + place / 100;
                placeOf.put(at == line.from ? along : line.fibre() - along, place);
            }
            for (Map.Entry<Integer, Integer> met : placeOf.entrySet()) {
                Fault fault = line.faults.get(met.getValue());
                int distance = way.length + met.getKey();
                if (fault.kind() == 3) {
                    way.all.add(new Event(3, distance, 0));
                    way.place = met.getValue();
                    way.length = distance;
                    way.loss += scatter * met.getKey() / 1000;
                    return way;
                }
                way.all.add(new Event(0, distance, fault.loss()));
                way.loss += fault.loss();
            }
            way.length += line.fibre();
            way.loss += scatter * line.fibre() / 1000;
            at = at == line.from ? line.to : line.from;
            End exit = new End(here, at);
            Splice splice = spliceAt(exit);
            if (splice == null) {
                way.all.add(new Event(2, way.length, 0));
                way.site = at;
                return way;
            }
            Fibre next = (splice.one.equals(exit) ? splice.other : splice.one).fibre();
            if (way.fibres.contains(next)) {
                way.all.add(new Event(4, way.length, 0));
                return way;
            }
            way.splices++;
            way.loss += splice.loss;
            int more = scatter(glassOf(next)) - scatter;
            way.all.add(new Event(1, way.length, splice.loss + 5 * more));
            here = next;
        }
    }

    public int way(int site, int cable, int colour, int what) {
        Way way = walk(site, cable, colour);
        argument(within(what, 0, 7));
        int[] answers = {way.loss, way.length, way.splices, way.fibres.size(), way.over().kind(), way.site,
            way.last.cable(), way.last.colour()};
        return answers[what];
    }

    private static List<Event> told(Way way) {
        List<Event> told = new ArrayList<>();
        int latest = 0;
        for (Event event : way.all) {
            if (event == way.over() || event.distance() >= latest + 30) {
                told.add(event);
                latest = event.distance();
            }
        }
        return told;
    }

    public int pulse(int site, int cable, int colour, int event, int what) {
        List<Event> told = told(walk(site, cable, colour));
        argument(event >= 0 && within(what, 0, 2));
        if (event >= told.size()) {
            return -2;
        }
        Event it = told.get(event);
        return what == 0 ? it.kind() : what == 1 ? it.distance() : it.seen();
    }

    public double decibels(int site, int cable, int colour) {
        // rint goes to the even one of two as near, and a hundredth over 50 is exact enough to tell them.
        return Math.rint(walk(site, cable, colour).loss / 50.0) / 2.0;
    }

    public int many(int what) {
        argument(within(what, 0, 10));
        switch (what) {
            case 0: return preforms.size();
            case 1: return reels.size();
            case 2: return (int) reels.stream().filter(r -> r.where == 0).count();
            case 3: return (int) reels.stream().filter(r -> r.where == 2).count();
            case 4: return reels.stream().filter(r -> r.where == 0).mapToInt(r -> r.length).sum();
            case 5: return cables.size();
            case 6: return laid.size();
            case 7: return spliced.size();
            case 8: return spliced.stream().mapToInt(s -> s.loss).sum();
            case 9: return cables.stream().mapToInt(c -> c.faults.size()).sum();
            default: return preforms.stream().mapToInt(Model::glassLeft).sum();
        }
    }

    // ---- what would be

    public int bestReel(int cable) {
        Line line = known(cables, cable);
        return IntStream.range(0, reels.size()).boxed().filter(k -> fits(reels.get(k), line))
            .min(Comparator.comparingInt(k -> reels.get(k).length * 100 + k)).orElse(-1);
    }

    public int pieces(int length) {
        argument(within(length, 100, 9000));
        return reels.stream().filter(r -> r.where == 0).mapToInt(r -> r.length / length).sum();
    }

    public int single(int preform) {
        Glass glass = known(preforms, preform);
        return IntStream.rangeClosed(0, 20).filter(index -> {
            List<Layer> more = new ArrayList<>(glass.layers);
            more.add(new Layer(index, 1));
            return modes(more) == 1;
        }).findFirst().orElse(-1);
    }

    public int locate(int site, int cable, int colour) {
        Way way = walk(site, cable, colour);
        return way.over().kind() == 3 ? 10000 * way.last.cable() + way.place : -1;
    }

    public long digest() {
        List<Integer> v = new ArrayList<>();
        IntStream.rangeClosed(0, 10).forEach(what -> v.add(many(what)));
        for (int p = 0; p < preforms.size(); p++) {
            for (int what = 0; what <= 5; what++) {
                v.add(ofPreform(p, what));
            }
            v.add(single(p));
        }
        for (int r = 0; r < reels.size(); r++) {
            for (int what = 0; what <= 7; what++) {
                v.add(ofReel(r, what));
            }
        }
        for (int c = 0; c < cables.size(); c++) {
            for (int what = 0; what <= 6; what++) {
                v.add(ofCable(c, what));
            }
            v.add(bestReel(c));
            for (int colour = 0; colour <= 5; colour++) {
                if (laid.containsKey(new Fibre(c, colour))) {
                    addFibre(v, c, colour);
                }
            }
        }
        v.add(pieces(500));
        long d = 58253;
        for (int number : v) {
            d = d * 31 + number;
        }
        return d;
    }

    private void addFibre(List<Integer> v, int cable, int colour) {
        Line line = cables.get(cable);
        for (int what = 0; what <= 7; what++) {
            v.add(way(line.from, cable, colour, what));
        }
        for (int what = 0; what <= 7; what++) {
            v.add(way(line.to, cable, colour, what));
        }
        v.add(locate(line.from, cable, colour));
        for (int k = 0; k < 6; k++) {
            v.add(pulse(line.from, cable, colour, k / 3, k % 3));
        }
    }
}
