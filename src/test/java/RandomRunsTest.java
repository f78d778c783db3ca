import java.lang.reflect.InvocationTargetException;
import java.lang.reflect.Method;
import java.util.ArrayList;
import java.util.HashMap;
import java.util.List;
import java.util.Map;
import java.util.Random;

/** Long runs of random calls: the class and the model answer alike. The seeds are fixed. */
public final class RandomRunsTest {
    private static final String[] NAMES = {"u", "v", "w", "room", "flat", "one", "abcdef"};
    private static final String[] ANGLES = {"flat", "rise", "fall", "cross"};
    private static final String[] ODD = {"plate", "kind", "ply", "room", ";", "9", "100", "1000", "0", "abcdefg",
        "A", "\u00e9", "-", "\t", "rise", "x", "99999999999999999999", "", " \n ", "limit", "one"};

    /** What the arguments of a call range over, the last bound left out. */
    private static final Map<String, int[][]> ARGUMENTS = new HashMap<>();
    private static final int[] PLY = {0, 8};
    private static final int[] SET = {1, 256};
    private static final int[] LOAD = {-999, 1000};
    private static final int[] MANY = {0, 40};

    static {
        int[] mask = {0, 8};
        int[] three = {0, 3};
        int[] angle = {0, 4};
        range("fault", new int[] {0, 2});
        range("count", new int[] {0, 6});
        range("kind", three, new int[] {0, 6});
        range("ply", PLY, new int[] {0, 5});
        range("stiff", three, three, three);
        range("even");
        range("warp");
        range("twist");
        range("run", new int[] {0, 2});
        range("likes");
        range("strain", LOAD, LOAD, LOAD, three, new int[] {0, 2});
        range("bend", LOAD, LOAD, LOAD, three, new int[] {0, 2});
        range("factor", LOAD, LOAD, LOAD, three);
        range("modulus", new int[] {0, 2}, new int[] {0, 2});
        range("orders", mask);
        range("order", mask, MANY, PLY);
        range("rank", mask);
        range("best", mask, angle);
        range("bestBy", mask, angle);
        range("nearest", mask);
        range("nearestAt", mask);
        range("unlike", mask);
        range("thinner", new int[] {1, 9}, mask);
        range("thin", new int[] {1, 9}, mask, MANY);
        range("blend", mask, new int[] {1, 4});
        range("blends", mask, new int[] {1, 4});
        range("comes", mask, new int[] {1, 4}, SET);
        range("step", mask, new int[] {1, 4}, new int[] {0, 5});
        range("frail", LOAD, LOAD, LOAD);
        range("frailSet", LOAD, LOAD, LOAD);
        range("carries", new int[] {0, 2});
        range("partOf", three, three);
        range("common", three, three);
        range("lost", PLY, three);
        range("worst", three);
        range("spared", LOAD, LOAD, LOAD);
        range("exchanges", mask, MANY);
        range("many", three, angle);
        range("swap", PLY, PLY);
        range("turn", PLY, angle);
        range("put", new int[] {0, 9}, three, angle);
        range("drop", PLY);
        range("become", mask, MANY);
        range("keep", SET);
        range("room", new int[] {1, 9});
        range("whirl", new int[] {1, 4});
        range("upset");
        range("turned", three);
        range("image", three);
        range("back", three);
        range("alike", three, three);
        range("undo");
        range("anew");
    }

    private static void range(String name, int[]... bounds) {
        ARGUMENTS.put(name, bounds);
    }

    private final Random random;
    private final PlyStacker x = new PlyStacker();
    private final Model y = new Model();
    private final List<String> calls = new ArrayList<>();
    private int wrong = 0;

    private RandomRunsTest(long seed) {
        random = new Random(seed);
    }

    private int call(String name, int... args) {
        if (calls.size() >= 512) return 0;
        Class<?>[] types = new Class<?>[args.length];
        Object[] given = new Object[args.length];
        StringBuilder text = new StringBuilder(name).append('(');
        for (int k = 0; k < args.length; k++) {
            types[k] = int.class;
            given[k] = args[k];
            text.append(k > 0 ? ", " : "").append(args[k]);
        }
        calls.add(text.append(')').toString());
        long got = answer(PlyStacker.class, x, name, types, given);
        long due = answer(Model.class, y, name, types, given);
        if (got != due) {
            wrong++;
            System.out.println(calls.get(calls.size() - 1) + " answered " + got + ", due is " + due);
        }
        return (int) due;
    }

    private static long answer(Class<?> of, Object object, String name, Class<?>[] types, Object[] given) {
        try {
            Method method = of.getDeclaredMethod(name, types);
            method.setAccessible(true);
            return ((Number) method.invoke(object, given)).longValue();
        } catch (InvocationTargetException e) {
            throw new IllegalStateException(name + " threw", e.getCause());
        } catch (ReflectiveOperationException e) {
            throw new IllegalStateException(e);
        }
    }

    private int argument(int[] bounds) {
        int dice = random.nextInt(60);
        if (dice == 0) return bounds[0] - 1;
        if (dice == 1) return bounds[1];
        if (dice == 2) return random.nextInt();
        if (dice == 3) return random.nextBoolean() ? Integer.MIN_VALUE : Integer.MAX_VALUE;
        int most = bounds[1];
        if (bounds == PLY && y.count(2) > 0) most = y.count(2);
        if (bounds == SET && y.count(2) > 0) most = 1 << y.count(2);
        if (bounds == MANY && random.nextInt(3) > 0) most = 3;
        if (bounds == LOAD && random.nextInt(3) > 0) return random.nextInt(9) - 4;
        return bounds[0] + random.nextInt(most - bounds[0]);
    }

    private void randomCall(String name) {
        int[][] bounds = ARGUMENTS.get(name);
        int[] args = new int[bounds.length];
        for (int k = 0; k < args.length; k++) args[k] = argument(bounds[k]);
        call(name, args);
    }

    // ---- texts ----

    private String blank() {
        return random.nextInt(6) == 0 ? "\n " : " ";
    }

    private int below(int most) {
        return random.nextInt(4) == 0 ? random.nextInt(most) : random.nextInt(Math.min(most, 4));
    }

    private List<String> tokens(int kinds, int plies) {
        List<String> out = new ArrayList<>(List.of("plate", "room", "" + (1 + random.nextInt(8)), ";"));
        int shift = random.nextInt(NAMES.length);
        for (int k = 0; k < kinds; k++) {
            out.addAll(List.of("kind", NAMES[(k + shift) % NAMES.length], "one", "" + (1 + below(99)), "two",
                "" + below(100), "three", "" + below(100), "four", "" + below(100), "limit", "" + (1 + below(999)), ";"));
        }
        int[] laid = row(kinds, plies);
        for (int k = 0; k < plies && kinds > 0; k++) {
            out.addAll(List.of("ply", NAMES[(laid[k] / 4 + shift) % NAMES.length], ANGLES[laid[k] % 4], ";"));
        }
        return out;
    }

    /** TYPES of a few sorts, mirrored half of the time. */
    private int[] row(int kinds, int plies) {
        int sorts = 1 + random.nextInt(4);
        int[] sort = new int[sorts];
        for (int k = 0; k < sorts; k++) sort[k] = random.nextInt(4 * Math.max(1, kinds));
        boolean mirrored = random.nextBoolean();
        int[] row = new int[plies];
        for (int k = 0; k < plies; k++) {
            boolean back = mirrored && 2 * k >= plies;
            row[k] = back ? row[plies - 1 - k] : sort[random.nextInt(sorts)];
        }
        return row;
    }

    private String text(boolean faulty) {
        int kinds = random.nextInt(faulty ? 5 : 4);
        List<String> tokens = tokens(kinds, random.nextInt(faulty ? 10 : 9));
        if (faulty) {
            int at = random.nextInt(tokens.size());
            String odd = ODD[random.nextInt(ODD.length)];
            switch (random.nextInt(4)) {
                case 0: tokens.set(at, odd); break;
                case 1: tokens.add(at, odd); break;
                case 2: tokens.remove(at); break;
                default: tokens = new ArrayList<>(tokens.subList(0, at));
            }
        }
        StringBuilder out = new StringBuilder();
        for (String token : tokens) {
            boolean apart = out.length() > 0 && Character.isLetterOrDigit(out.charAt(out.length() - 1))
                && !token.isEmpty() && Character.isLetterOrDigit(token.charAt(0));
            if (apart || random.nextInt(5) == 0) out.append(blank());
            out.append(token);
        }
        if (faulty && random.nextInt(8) == 0) out.append(" \n");
        return out.length() > 600 ? out.substring(0, 600) : out.toString();
    }

    private void tell(String text) {
        call("end", 0);
        for (int[] n : Feeder.numbers(text)) call("feed", n);
        call("count", 5);
        call("end", text.length());
        call("plate");
        for (int k = -1; k <= 2; k++) call("fault", k);
        for (int k = -1; k <= 6; k++) call("count", k);
        call("even");
    }

    // ---- runs ----

    private int ended(String kindOfRun, long seed) {
        if (wrong > 0) {
            System.out.println(kindOfRun + " " + seed + ": " + calls.subList(Math.max(0, calls.size() - 40), calls.size()));
        }
        return wrong;
    }

    private int texts(long seed) {
        for (int k = 0; k < 12; k++) tell(text(random.nextInt(4) > 0));
        return ended("texts", seed);
    }

    private int mixed(long seed, int most) {
        List<String> names = new ArrayList<>(ARGUMENTS.keySet());
        names.sort(null);
        tell(text(false));
        for (int k = 0; k < most && wrong == 0; k++) {
            String name = names.get(random.nextInt(names.size()));
            boolean dear = y.count(2) > 6 && random.nextInt(4) > 0 && name.matches(
                "order.*|rank|best.*|nearest.*|unlike|exchanges|become");
            if (dear) continue;
            if (random.nextInt(60) == 0) tell(text(random.nextInt(3) == 0));
            randomCall(name);
            if (random.nextInt(3) == 0) {
                call("count", 2);
                for (int i = 0; i < y.count(2); i++) call("ply", i, 2);
            }
        }
        return ended("mixed", seed);
    }

    /** Acts up to the last that is allowed, and images of them. */
    private int acts(long seed) {
        String[] names = {"swap", "turn", "put", "room", "whirl", "upset", "become", "drop", "keep", "image", "back",
            "undo", "anew", "turned", "alike", "partOf", "common"};
        tell(text(false));
        for (int k = 0; k < 160 && wrong == 0; k++) {
            int seldom = random.nextInt(12) == 0 ? names.length : 7;
            randomCall(names[random.nextInt(seldom)]);
            call("count", 3);
            call("count", 0);
            call("count", 2);
            for (int i = 0; i < y.count(2); i++) call("ply", i, 2);
        }
        return ended("acts", seed);
    }

    /** All that is asked of ORDERS and of THINNER plates by one mask. */
    private int sweep(long seed) {
        int mask = (int) (seed % 8);
        int kinds = 1 + random.nextInt(3);
        tell(String.join(" ", tokens(kinds, 1 + random.nextInt(random.nextInt(4) == 0 ? 8 : 6))));
        if (random.nextBoolean()) call("room", 2 + random.nextInt(7));
        int orders = call("orders", mask);
        for (int k = 0; k <= orders && k < 9; k++) {
            int at = k < 4 ? k : random.nextInt(orders + 1);
            for (int i = 0; i < y.count(2); i++) call("order", mask, at, i);
            call("exchanges", mask, at);
        }
        for (String name : new String[] {"rank", "nearest", "nearestAt", "unlike"}) call(name, mask);
        for (int what = 0; what < 4; what++) {
            call("best", mask, what);
            call("bestBy", mask, what);
        }
        for (int n = 1; n <= y.count(2); n++) {
            int sets = call("thinner", n, mask);
            for (int k = 0; k <= sets && k < 4; k++) call("thin", n, mask, k);
            call("thin", n, mask, sets - 1);
        }
        for (int d = 1; d <= 3; d++) {
            call("blend", mask, d);
            int plates = call("blends", mask, d);
            for (int i = 0; i <= plates; i++) call("step", mask, d, i);
            for (int k = 0; k < 20; k++) call("comes", mask, d, 1 + random.nextInt((1 << y.count(2)) - 1));
        }
        if (orders > 0) call("become", mask, random.nextInt(orders));
        for (int i = 0; i < y.count(2); i++) call("ply", i, 2);
        call("rank", mask);
        return ended("sweep", seed);
    }

    /** Loads on plates that are flat, near to where LIMITS are. */
    private int loads(long seed) {
        int kinds = 1 + random.nextInt(3);
        tell(String.join(" ", tokens(kinds, 1 + random.nextInt(8))));
        for (int k = 0; k < 24; k++) {
            int[] n = new int[3];
            for (int i = 0; i < 3; i++) n[i] = random.nextInt(3) == 0 ? 0 : random.nextInt(1999) - 999;
            for (int what = 0; what < 3; what++) {
                call("factor", n[0], n[1], n[2], what);
                call("strain", n[0], n[1], n[2], what, k % 2);
                call("bend", n[0], n[1], n[2], what, k % 2);
            }
            call("spared", n);
            call("frail", n);
            call("frailSet", n);
            call("modulus", k % 2, k / 2 % 2);
            call("carries", k % 2);
            if (k % 6 == 5) call("turn", random.nextInt(8), random.nextInt(4));
        }
        return ended("loads", seed);
    }

    public static void main(String[] args) {
        int runs = args.length > 0 ? Integer.parseInt(args[0]) : 400;
        long first = args.length > 1 ? Long.parseLong(args[1]) : 1;
        int wrong = 0;
        for (long seed = first; seed < first + runs && wrong == 0; seed++) {
            wrong += new RandomRunsTest(seed).texts(seed);
            wrong += new RandomRunsTest(seed + 1000003).mixed(seed, 150);
            wrong += new RandomRunsTest(seed + 2000003).acts(seed);
            wrong += new RandomRunsTest(seed + 3000003).sweep(seed);
            wrong += new RandomRunsTest(seed + 4000003).loads(seed);
        }
        System.out.println(wrong == 0 ? "all answers are as the model's" : wrong + " answers are not");
        if (wrong != 0) System.exit(1);
    }
}
