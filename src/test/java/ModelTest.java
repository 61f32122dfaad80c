import java.lang.reflect.InvocationTargetException;
import java.lang.reflect.Method;
import java.util.Arrays;
import java.util.HashMap;
import java.util.Map;
import java.util.Random;

/** All promises: random runs of 512 calls, answered by the class and by Model. The run's number is its seed. */
public final class ModelTest {
    private static final int RUNS = 600;
    private static final int CALLS = 512;
    /** In this order first, as hardly anything is answered before there are fibres. */
    private static final String BUILDING = "preform preform soot soot soot soot soot soot draw draw draw draw flaw "
        + "proof proof proof proof proof cable cable cable lay lay lay lay lay lay lay lay splice splice splice splice";
    private static final String LATER =
        "preform soot soot draw draw flaw flaw proof proof cable lay lay splice splice splice splice part dig bend bend "
        + "mend mend ofPreform ofReel ofCable way way way pulse pulse pulse decibels many bestReel pieces single "
        + "locate locate digest";
    private static final int[] WILD = {-1, 0, 1, 5, 6, 8, 9, 10, 20, 21, 99, 100, 101, 201, 9000, 9001, 20000, 20001,
        Integer.MIN_VALUE, Integer.MAX_VALUE};

    private final Random random;
    private final Preformtower x = new Preformtower();
    private final Model model = new Model();

    private ModelTest(long seed) {
        random = new Random(seed);
    }

    public static void main(String[] args) throws Exception {
        Map<String, Method> face = methods(Preformtower.class);
        Map<String, Method> second = methods(Model.class);
        Map<String, Integer> threw = new HashMap<>();
        Map<String, Integer> answered = new HashMap<>();
        for (int run = 0; run < RUNS; run++) {
            new ModelTest(run).run(run, face, second, threw, answered);
        }
        // A run that never comes to a call's answer tests little of it.
        for (String name : face.keySet()) {
            if (answered.getOrDefault(name, 0) < RUNS) {
                Check.wrong(name + " answered in too few calls: " + answered);
            }
            if (face.get(name).getParameterCount() > 0 && threw.getOrDefault(name, 0) < RUNS / 20) {
                Check.wrong(name + " threw in too few calls: " + threw);
            }
        }
        System.out.println("answered: " + answered + ", threw: " + threw);
        Check.end();
    }

    private static Map<String, Method> methods(Class<?> of) {
        Map<String, Method> all = new HashMap<>();
        for (Method method : of.getDeclaredMethods()) {
            if (java.lang.reflect.Modifier.isPublic(method.getModifiers())) {
                all.put(method.getName(), method);
            }
        }
        return all;
    }

    private void run(int run, Map<String, Method> face, Map<String, Method> second, Map<String, Integer> threw,
            Map<String, Integer> answered) throws Exception {
        String[] building = BUILDING.split(" ");
        String[] later = LATER.split(" ");
        for (int call = 0; call < CALLS; call += 2) {
            int step = call / 2;
            String name = step < building.length ? building[step] : later[random.nextInt(later.length)];
            Object[] numbers = numbers(name);
            Object due = answer(second.get(name), model, numbers);
            Object got = answer(face.get(name), x, numbers);
            String told = "run " + run + ", call " + call + ": " + name + Arrays.toString(numbers);
            Check.due(told + " (" + got + ", due is " + due + ")", 1, due.equals(got) ? 1 : 0);
            Check.due(told + " and then digest()", model.digest(), x.digest());
            (due instanceof Class ? threw : answered).merge(name, 1, Integer::sum);
            if (name.equals("way") && numbers[3].equals(4)) {
                answered.merge("way over at " + due, 1, Integer::sum);
            }
        }
    }

    private static Object answer(Method method, Object of, Object[] numbers) throws Exception {
        try {
            return method.invoke(of, numbers);
        } catch (InvocationTargetException e) {
            return e.getCause().getClass();
        }
    }

    private Object[] numbers(String name) {
        int[] likely = likely(name);
        Object[] numbers = new Object[likely.length];
        for (int k = 0; k < likely.length; k++) {
            int number = likely[k];
            if (random.nextInt(25) == 0) {
                number = WILD[random.nextInt(WILD.length)];
            } else if (random.nextInt(40) == 0) {
                number += random.nextBoolean() ? 1 : -1;
            }
            numbers[k] = number;
        }
        return numbers;
    }

    private int from(int least, int most) {
        return least + random.nextInt(Math.max(1, most - least + 1));
    }

    private int[] likely(String name) {
        int preform = from(0, model.preforms.size() - 1);
        int reel = from(0, model.reels.size() - 1);
        int cable = from(0, model.cables.size() - 1);
        switch (name) {
            case "preform": case "digest": return new int[] {};
            case "soot": return new int[] {preform, index(preform), from(1, 9)};
            case "draw": return new int[] {preform, random.nextInt(4) == 0 ? from(100, 8000) : from(100, 1500)};
            case "flaw": return new int[] {reel, place(model.reels.isEmpty() ? 9 : model.reels.get(reel).length), from(1, 99)};
            case "proof": return new int[] {reel, random.nextInt(3) == 0 ? from(1, 100) : from(45, 60)};
            case "cable": return cable();
            case "lay": return lay(reel, cable);
            case "splice": return splice();
            case "part": case "decibels": case "locate": return end();
            case "dig": return new int[] {cable, faultPlace(cable)};
            case "bend": return new int[] {cable, faultPlace(cable), from(1, 200)};
            case "mend": case "bestReel": return new int[] {cable};
            case "ofPreform": return new int[] {preform, from(0, 5)};
            case "ofReel": return new int[] {reel, from(0, 7)};
            case "ofCable": return new int[] {cable, from(0, 6)};
            case "way": return with(end(), from(0, 7));
            case "pulse": return with(end(), from(0, 5), from(0, 2));
            case "many": return new int[] {from(0, 10)};
            case "pieces": return new int[] {random.nextInt(3) == 0 ? from(100, 9000) : from(100, 400)};
            case "single": return new int[] {preform};
            default: throw new IllegalArgumentException(name);
        }
    }

    // Mostly downwards, so that there is a CORE.
    private int index(int preform) {
        if (model.preforms.isEmpty() || random.nextInt(3) == 0) {
            return from(0, 20);
        }
        Model.Glass glass = model.preforms.get(preform);
        return glass.layers.isEmpty() ? from(5, 20) : from(0, glass.layers.get(glass.layers.size() - 1).index());
    }

    private int[] lay(int reel, int cable) {
        int colour = from(0, random.nextInt(3) == 0 ? 5 : 2);
        boolean bestOne = !model.cables.isEmpty() && random.nextInt(3) != 0;
        return new int[] {bestOne ? model.bestReel(cable) : reel, cable, colour};
    }

    private int place(int length) {
        return random.nextInt(3) == 0 ? from(1, Math.min(120, length - 1)) : from(1, length - 1);
    }

    private int faultPlace(int cable) {
        int length = model.cables.isEmpty() ? 9 : model.cables.get(cable).length;
        int near = from(1, 70);
        switch (random.nextInt(3)) {
            case 0: return near;
            case 1: return length - near;
            default: return from(1, length - 1);
        }
    }

    // Few SITES and short CABLES, so that WAYS are long and end in RINGS.
    private int[] cable() {
        int sites = random.nextInt(4) == 0 ? 5 : 2;
        int length = random.nextInt(6) == 0 ? from(100, 9000) : from(100, 260);
        int from = from(0, sites);
        int to = from(0, sites);
        return new int[] {from, from == to && random.nextInt(8) != 0 ? (to + 1) % 6 : to, length};
    }

    private int[] end() {
        Model.Fibre[] fibres = model.laid.keySet().stream()
            .sorted((a, b) -> Integer.compare(a.cable() * 6 + a.colour(), b.cable() * 6 + b.colour()))
            .toArray(Model.Fibre[]::new);
        if (fibres.length == 0 || random.nextInt(20) == 0) {
            return new int[] {from(0, 5), from(0, 4), from(0, 5)};
        }
        Model.Fibre fibre = fibres[random.nextInt(fibres.length)];
        Model.Line line = model.cables.get(fibre.cable());
        return new int[] {random.nextBoolean() ? line.from : line.to, fibre.cable(), fibre.colour()};
    }

    private int[] splice() {
        int[] one = end();
        int[] other = end();
        for (int k = 0; k < 20 && (other[0] != one[0] || Arrays.equals(one, other)); k++) {
            other = end();
        }
        return with(one, other[1], other[2], from(0, 9));
    }

    private static int[] with(int[] first, int... more) {
        int[] all = Arrays.copyOf(first, first.length + more.length);
        System.arraycopy(more, 0, all, first.length, more.length);
        return all;
    }
}
