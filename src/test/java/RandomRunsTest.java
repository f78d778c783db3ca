import java.lang.reflect.InvocationTargetException;
import java.lang.reflect.Method;
import java.util.ArrayList;
import java.util.HashMap;
import java.util.List;
import java.util.Map;
import java.util.Random;

/** Long runs of random calls: the class and the model answer alike. The seeds are fixed. */
public final class RandomRunsTest {
    private static final String[] NAMES = {"u", "v", "w", "room", "flat", "one", "abcdef"};
    private static final String[] ANGLES = {"flat", "rise", "fall", "cross"};
    private static final String[] ODD = {"plate", "kind", "ply", "room", ";", "9", "100", "1000", "0", "abcdefg",
        "A", "\u00e9", "-", "\t", "rise", "x", "99999999999999999999", "", " \n ", "limit", "one"};

    /** What the arguments of a call range over, the last bound left out. */
    private static final Map<String, int[][]> ARGUMENTS = new HashMap<>();

    static {
        int[] mask = {0, 8};
        int[] three = {0, 3};
        int[] angle = {0, 4};
        int[] ply = {0, 8};
        int[] load = {-999, 1000};
        int[] many = {0, 40};
        range("fault", new int[] {0, 2});
        range("count", new int[] {0, 6});
        range("kind", three, new int[] {0, 6});
        range("ply", ply, new int[] {0, 5});
        range("stiff", three, three, three);
        range("even");
        range("warp");
        range("twist");
        range("run", new int[] {0, 2});
        range("likes");
        range("strain", load, load, load, three, new int[] {0, 2});
        range("bend", load, load, load, three, new int[] {0, 2});
        range("factor", load, load, load, three);
        range("modulus", new int[] {0, 2}, new int[] {0, 2});
        range("orders", mask);
        range("order", mask, many, ply);
        range("rank", mask);
        range("best", mask, angle);
        range("bestBy", mask, angle);
        range("nearest", mask);
        range("nearestAt", mask);
        range("unlike", mask);
        range("thinner", new int[] {1, 9}, mask);
        range("thin", new int[] {1, 9}, mask, new int[] {0, 12});
        range("blend", mask, new int[] {1, 4});
        range("blends", mask, new int[] {1, 4});
        range("comes", mask, new int[] {1, 4}, new int[] {1, 256});
        range("step", mask, new int[] {1, 4}, new int[] {0, 5});
        range("frail", load, load, load);
        range("frailSet", load, load, load);
        range("carries", new int[] {0, 2});
        range("partOf", three, three);
        range("common", three, three);
        range("lost", ply, three);
        range("worst", three);
        range("spared", load, load, load);
        range("exchanges", mask, many);
        range("many", three, angle);
        range("swap", ply, ply);
        range("turn", ply, angle);
        range("put", new int[] {0, 9}, three, angle);
        range("drop", ply);
        range("become", mask, many);
        range("keep", new int[] {1, 256});
        range("room", new int[] {1, 9});
        range("whirl", new int[] {1, 4});
        range("upset");
        range("turned", three);
        range("image", three);
        range("back", three);
        range("alike", three, three);
        range("undo");
        range("anew");
    }

    private static void range(String name, int[]... bounds) {
        ARGUMENTS.put(name, bounds);
    }

    private final Random random;
    private final PlyStacker x = new PlyStacker();
    private final Model y = new Model();
    private final List<String> calls = new ArrayList<>();
    private int wrong = 0;

    private RandomRunsTest(long seed) {
        random = new Random(seed);
    }

    private int call(String name, int... args) {
        Class<?>[] types = new Class<?>[args.length];
        Object[] given = new Object[args.length];
        StringBuilder text = new StringBuilder(name).append('(');
        for (int k = 0; k < args.length; k++) {
            types[k] = int.class;
            given[k] = args[k];
            text.append(k > 0 ? ", " : "").append(args[k]);
        }
        calls.add(text.append(')').toString());
        long got = answer(PlyStacker.class, x, name, types, given);
        long due = answer(Model.class, y, name, types, given);
        if (got != due) {
            wrong++;
            System.out.println(calls.get(calls.size() - 1) + " answered " + got + ", due is " + due);
        }
        return (int) due;
    }

    private static long answer(Class<?> of, Object object, String name, Class<?>[] types, Object[] given) {
        try {
            Method method = of.getDeclaredMethod(name, types);
            method.setAccessible(true);
            return ((Number) method.invoke(object, given)).longValue();
        } catch (InvocationTargetException e) {
            throw new IllegalStateException(name + " threw", e.getCause());
        } catch (ReflectiveOperationException e) {
            throw new IllegalStateException(e);
        }
    }

    private int argument(int[] bounds) {
        int dice = random.nextInt(60);
        if (dice == 0) return bounds[0] - 1;
        if (dice == 1) return bounds[1];
        if (dice == 2) return random.nextInt();
        if (dice == 3) return random.nextBoolean() ? Integer.MIN_VALUE : Integer.MAX_VALUE;
        if (bounds[1] - bounds[0] > 1000 && random.nextInt(3) > 0) return random.nextInt(9) - 4;
        return bounds[0] + random.nextInt(bounds[1] - bounds[0]);
    }

    private void randomCall(String name) {
        int[][] bounds = ARGUMENTS.get(name);
        int[] args = new int[bounds.length];
        for (int k = 0; k < args.length; k++) args[k] = argument(bounds[k]);
        call(name, args);
    }

    // ---- texts ----

    private String blank() {
        return random.nextInt(6) == 0 ? "\n " : " ";
    }

    private int below(int most) {
        return random.nextInt(4) == 0 ? random.nextInt(most) : random.nextInt(Math.min(most, 4));
    }

    private List<String> tokens(int kinds, int plies) {
        List<String> out = new ArrayList<>(List.of("plate", "room", "" + (1 + random.nextInt(8)), ";"));
        int shift = random.nextInt(NAMES.length);
        for (int k = 0; k < kinds; k++) {
            out.addAll(List.of("kind", NAMES[(k + shift) % NAMES.length], "one", "" + (1 + below(99)), "two",
                "" + below(100), "three", "" + below(100), "four", "" + below(100), "limit", "" + (1 + below(999)), ";"));
        }
        int types = 1 + random.nextInt(4);
        int base = random.nextInt(4);
        for (int k = 0; k < plies && kinds > 0; k++) {
            int type = random.nextInt(types);
            out.addAll(List.of("ply", NAMES[(type * 7 % kinds + shift) % NAMES.length],
                ANGLES[random.nextInt(5) == 0 ? random.nextInt(4) : (base + type) % 4], ";"));
        }
        return out;
    }

    private String text(boolean faulty) {
        int kinds = random.nextInt(faulty ? 5 : 4);
        List<String> tokens = tokens(kinds, random.nextInt(faulty ? 10 : 9));
        if (faulty) {
            int at = random.nextInt(tokens.size());
            String odd = ODD[random.nextInt(ODD.length)];
            switch (random.nextInt(4)) {
                case 0: tokens.set(at, odd); break;
                case 1: tokens.add(at, odd); break;
                case 2: tokens.remove(at); break;
                default: tokens = new ArrayList<>(tokens.subList(0, at));
            }
        }
        StringBuilder out = new StringBuilder();
        for (String token : tokens) {
            boolean apart = out.length() > 0 && Character.isLetterOrDigit(out.charAt(out.length() - 1))
                && !token.isEmpty() && Character.isLetterOrDigit(token.charAt(0));
            if (apart || random.nextInt(5) == 0) out.append(blank());
            out.append(token);
        }
        return out.length() > 600 ? out.substring(0, 600) : out.toString();
    }

    private void tell(String text) {
        call("end", 0);
        for (int[] n : Feeder.numbers(text)) call("feed", n);
        call("count", 5);
        call("end", text.length());
        call("plate");
        for (int k = -1; k <= 2; k++) call("fault", k);
        for (int k = -1; k <= 6; k++) call("count", k);
        call("even");
    }

    // ---- runs ----

    private int ended(String kindOfRun, long seed) {
        if (wrong > 0) {
            System.out.println(kindOfRun + " " + seed + ": " + calls.subList(Math.max(0, calls.size() - 40), calls.size()));
        }
        return wrong;
    }

    private int texts(long seed) {
        for (int k = 0; k < 12; k++) tell(text(random.nextInt(4) > 0));
        return ended("texts", seed);
    }

    private int mixed(long seed, int most) {
        List<String> names = new ArrayList<>(ARGUMENTS.keySet());
        names.sort(null);
        tell(text(false));
        for (int k = 0; k < most && wrong == 0; k++) {
            String name = names.get(random.nextInt(names.size()));
            boolean dear = y.count(2) > 6 && random.nextInt(4) > 0 && name.matches(
                "order.*|rank|best.*|nearest.*|unlike|exchanges|become");
            if (dear) continue;
            if (random.nextInt(60) == 0) tell(text(random.nextInt(3) == 0));
            randomCall(name);
            if (random.nextInt(3) == 0) {
                call("count", 2);
                for (int i = 0; i < y.count(2); i++) call("ply", i, 2);
            }
        }
        return ended("mixed", seed);
    }

    /** Acts up to the last that is allowed, and images of them. */
    private int acts(long seed) {
        String[] names = {"swap", "turn", "put", "room", "whirl", "upset", "become", "drop", "keep", "image", "back",
            "undo", "anew", "turned", "alike", "partOf", "common"};
        tell(text(false));
        for (int k = 0; k < 160 && wrong == 0; k++) {
            int seldom = random.nextInt(12) == 0 ? names.length : 7;
            randomCall(names[random.nextInt(seldom)]);
            call("count", 3);
            call("count", 0);
            call("count", 2);
            for (int i = 0; i < y.count(2); i++) call("ply", i, 2);
        }
        return ended("acts", seed);
    }

    public static void main(String[] args) {
        int runs = args.length > 0 ? Integer.parseInt(args[0]) : 400;
        long first = args.length > 1 ? Long.parseLong(args[1]) : 1;
        int wrong = 0;
        for (long seed = first; seed < first + runs && wrong == 0; seed++) {
            wrong += new RandomRunsTest(seed).texts(seed);
            wrong += new RandomRunsTest(seed + 1000003).mixed(seed, 150);
            wrong += new RandomRunsTest(seed + 2000003).acts(seed);
        }
        System.out.println(wrong == 0 ? "all answers are as the model's" : wrong + " answers are not");
        if (wrong != 0) System.exit(1);
    }
}
