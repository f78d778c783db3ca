import java.lang.reflect.InvocationTargetException;
import java.lang.reflect.Method;
import java.util.Arrays;
import java.util.Comparator;

/**
 * What tests of boundaries share: plates to ask, and a look at everything that a call may leave changed.
 * A test is a static method whose name begins with its promise: p07_.. asks promise 7.
 */
final class Edges {
    static final long NO_SUCH = Long.MIN_VALUE;
    static final int MIN = Integer.MIN_VALUE;
    static final int MAX = Integer.MAX_VALUE;
    static final String AA = "kind aa one 20 two 10 three 3 four 5 limit 40;";
    static final String BB = "kind bb one 8 two 0 three 1 four 2 limit 7;";
    static final String CC = "kind cc one 9 two 2 three 0 four 1 limit 999;";
    /** Two KINDS with the same NUMBERS. */
    static final String LIKE = "kind a one 9 two 2 three 1 four 1 limit 1;kind b one 9 two 2 three 1 four 1 limit 1;";
    static final String PENDING = "plate room 6;" + BB + "ply bb fall;";

    interface Maker {
        PlyStacker make();
    }

    interface Call {
        long on(PlyStacker x);
    }

    interface Asker {
        long ask(PlyStacker x, int value);
    }

    interface Loaded {
        long ask(PlyStacker x, int n0, int n1, int n2);
    }

    private static String test = "";
    private static int asked = 0;
    private static int wrong = 0;

    private Edges() { }

    // ---- plates ----

    static String plies(String... plies) {
        StringBuilder out = new StringBuilder();
        for (String ply : plies) out.append("ply ").append(ply).append(';');
        return out.toString();
    }

    static PlyStacker told(int room, String kinds, String... plies) {
        return Feeder.plate("plate room " + room + ";" + kinds + plies(plies));
    }

    /** TYPES 0 1 7 2 of two KINDS, ROOM 3, seven LINES; neither FLAT nor STRAIGHT. */
    static PlyStacker uneven() {
        return told(3, AA + BB, "aa flat", "aa rise", "bb cross", "aa fall");
    }

    /** TYPES 0 3 3 0, ROOM 2: MIRRORED, FLAT, STRAIGHT, BALANCED. */
    static PlyStacker mirrored() {
        return told(2, "kind u one 10 two 4 three 1 four 2 limit 50;", "u flat", "u cross", "u cross", "u flat");
    }

    /** A KIND, no PLIES. */
    static PlyStacker empty() {
        return told(2, AA);
    }

    /** Eight PLIES: as many as there may be. */
    static PlyStacker full() {
        return told(8, AA + BB, "aa flat", "aa rise", "bb cross", "aa fall", "aa flat", "aa rise", "bb cross", "aa fall");
    }

    /** Two PLIES whose B is 0 at all places but one: 0 0 (0), 1 1 (1), 0 1 (2), 2 2 (3, 5), 0 2 (4). */
    static PlyStacker bowed(int where) {
        String[] a = {"10 two 4 three 0 four 0", "10 two 4 three 0 four 0", "10 two 1 three 0 four 6",
            "10 two 1 three 0 four 0", "10 two 1 three 0 four 0", "5 two 1 three 0 four 4"};
        String[] b = {"13 two 0 three 1 four 1", "13 two 0 three 1 four 1", "9 two 1 three 1 four 3",
            "9 two 1 three 1 four 1", "10 two 3 three 0 four 0", "6 two 1 three 1 four 3"};
        String angle = where == 0 ? " cross" : where >= 4 ? " rise" : " flat";
        return told(8, "kind a one " + a[where] + " limit 1;kind b one " + b[where] + " limit 1;", "a" + angle,
            "b" + angle);
    }

    /** Two PLIES that rise, two within that fall, with other NUMBERS two. */
    static PlyStacker skew(int outer, int inner) {
        return told(8, "kind a one 9 two " + outer + " three 1 four 1 limit 1;kind b one 9 two " + inner
            + " three 1 four 1 limit 1;", "a rise", "b fall", "b fall", "a rise");
    }

    /** FLAT; twice A at 2 2 is one - 2, twice D there one - 26. */
    static PlyStacker slack(int one) {
        return told(3, "kind a one 1 two 0 three 1 four 0 limit 1;kind b one " + one
            + " two 0 three 0 four 0 limit 1;", "a flat", "b flat", "a flat");
    }

    /** FLAT, A: 68 32 0, 32 68 0, 0 0 42. */
    static PlyStacker slanted(int limit) {
        return told(3, "kind d one 20 two 10 three 3 four 5 limit " + limit + ";", "d rise", "d fall", "d fall", "d rise");
    }

    /**
     * FLAT, not STRAIGHT, no two entries alike but those that must be: twice A is 52 16 6, 16 36 6, 6 6 22,
     * twice D 592 352 168, 352 528 168, 168 168 328. PLIES 0 and 3 rise, PLIES 1 and 2 lie flat.
     */
    static PlyStacker tilted(int limit, int inner) {
        return told(8, "kind a one 5 two 3 three 1 four 2 limit " + limit + ";kind b one 7 two 2 three 0 four 1 limit "
            + inner + ";", "a rise", "b flat", "b flat", "a rise");
    }

    /** A PLY that rises, FLAT but not STRAIGHT: DET of A is 0 if two is 5, by the entries at 0 2 and 1 2 alone. */
    static PlyStacker leaning(int two) {
        return told(1, "kind a one 5 two " + two + " three 0 four 0 limit 9;", "a rise");
    }

    /** So many PLIES that lie flat. */
    static PlyStacker flats(int n, int room) {
        String[] plies = new String[n];
        Arrays.fill(plies, "aa flat");
        return told(room, AA, plies);
    }

    static PlyStacker none() {
        return new PlyStacker();
    }

    /** No PLATE, but IMAGE 0 has one, and the TAPE has a TEXT. */
    static PlyStacker bare() {
        PlyStacker x = uneven();
        x.swap(0, 1);
        x.image(0);
        x.plate();
        Feeder.feed(x, PENDING);
        return x;
    }

    /**
     * TYPES 7 1 0 2, ROOM 5, four acts; IMAGE 0 has 0 1 7 2 4 and an act, IMAGE 1 nothing, IMAGE 2 another
     * PLATE; the latest plate() had FAULT 2 at 11; the TAPE has a TEXT.
     */
    static PlyStacker busy() {
        PlyStacker x = told(4, CC, "cc rise", "cc cross");
        x.whirl(1);
        x.image(2);
        Feeder.feed(x, "plate room 3;" + AA + BB + plies("aa flat", "aa rise", "bb cross", "aa fall"));
        x.plate();
        x.put(4, 1, 0);
        x.image(0);
        x.swap(0, 2);
        x.room(5);
        x.drop(4);
        Feeder.feed(x, "plate room 9;");
        x.plate();
        Feeder.feed(x, PENDING);
        return x;
    }

    /** A PLATE with so many acts more, by which only its ROOM becomes 6, 7, 6 .. */
    static PlyStacker acted(PlyStacker x, int acts) {
        for (int k = 0; k < acts; k++) {
            if (x.room(6 + k % 2) != 0) throw new IllegalStateException("no act");
        }
        return x;
    }

    // ---- asking ----

    static void due(String what, long got, long want) {
        asked++;
        if (got != want) {
            wrong++;
            System.out.println(test + ": " + what + " answered " + got + ", due is " + want);
        }
    }

    static void types(PlyStacker x, int... types) {
        due("count(2)", x.count(2), types.length);
        for (int k = 0; k < types.length; k++) due("ply(" + k + ", 2)", x.ply(k, 2), types[k]);
    }

    private static final int LOOKS = 8;
    private static final int COMPARED = 5;
    private static final int TAPE = 6;
    private static final int FAULTS = 7;

    /** A call answers as due, and leaves everything as it was. */
    static void stays(String what, Maker maker, Call call, long want) {
        due(what, call.on(maker.make()), want);
        for (int look = 0; look < LOOKS; look++) sameLook(what, maker, call, look);
    }

    /** A call leaves everything as it was but the TAPE and the latest FAULT. */
    static void leavesPlates(String what, Maker maker, Call call) {
        for (int look = 0; look < TAPE; look++) sameLook(what, maker, call, look);
    }

    /** A call may change the PLATE and its acts, but neither an IMAGE nor the TAPE nor the latest FAULT. */
    static void leavesElse(String what, Maker maker, Call call) {
        for (int look = 2; look < LOOKS; look++) {
            if (look != COMPARED) sameLook(what, maker, call, look);
        }
    }

    private static void sameLook(String what, Maker maker, Call call, int look) {
        PlyStacker x = maker.make();
        call.on(x);
        String after = look(x, look);
        String before = look(maker.make(), look);
        asked++;
        if (!before.equals(after)) {
            wrong++;
            System.out.println(test + ": " + what + " changed " + before + " to " + after);
        }
    }

    /** What an object tells; some looks change it, so each is asked of an object of its own. */
    private static String look(PlyStacker x, int which) {
        switch (which) {
            case 0: return now(x);
            case 1: return acts(x);
            case COMPARED: return compared(x);
            case TAPE: return x.count(5) + " " + x.plate() + " " + x.fault(0) + " " + x.fault(1) + " " + now(x);
            case FAULTS: return x.fault(0) + " " + x.fault(1) + " " + x.fault(2);
            default: return x.back(which - 2) == 0 ? numbers(x) + acts(x) : "nothing";
        }
    }

    private static String numbers(PlyStacker x) {
        StringBuilder out = new StringBuilder();
        for (int k = 0; k < 3; k++) for (int what = 0; what < 6; what++) out.append(x.kind(k, what)).append(' ');
        return out.append("/ ").toString();
    }

    private static String rows(PlyStacker x) {
        StringBuilder out = new StringBuilder();
        int plies = x.count(2);
        out.append(x.count(0)).append(' ').append(plies).append(':');
        for (int k = 0; k < plies; k++) out.append(' ').append(x.ply(k, 2));
        return out.append(" / ").toString();
    }

    private static String now(PlyStacker x) {
        StringBuilder out = new StringBuilder(numbers(x)).append(rows(x));
        for (int what = 0; what < 5; what++) out.append(x.count(what)).append(' ');
        for (int cell = 0; cell < 27; cell++) out.append(x.stiff(cell / 9, cell / 3 % 3, cell % 3)).append(' ');
        out.append(x.even()).append(' ').append(x.warp()).append(' ').append(x.twist()).append(' ').append(x.run(1));
        if (x.count(2) <= 5) {
            for (int mask = 0; mask < 8; mask++) out.append(' ').append(x.orders(mask)).append(' ').append(x.rank(mask));
        }
        return out.toString();
    }

    private static String acts(PlyStacker x) {
        StringBuilder out = new StringBuilder(x.count(3) + ". " + rows(x));
        // there are 30 at most: where undo() never refuses, the look ends all the same
        int left = x.undo();
        for (int n = 0; n < 31 && left >= 0; n++) {
            out.append(left).append(". ").append(rows(x));
            left = x.undo();
        }
        return out.append(left).toString();
    }

    private static String compared(PlyStacker x) {
        StringBuilder out = new StringBuilder();
        for (int k = 0; k < 3; k++) {
            out.append(x.turned(k)).append(' ');
            for (int l = 0; l < 3; l++) {
                out.append(x.alike(k, l)).append(' ').append(x.partOf(k, l)).append(' ').append(x.common(k, l)).append(' ');
            }
        }
        return out.toString();
    }

    /** Numbers beyond the bounds: next to them, as far off as can be, and where few bits are looked at. */
    static int[] outside(int least, int most) {
        return new int[] {least - 1, most + 1, MIN, MAX, least + 65536, MIN + least, MIN + most};
    }

    /** Each argument from the least on has its answer; all beyond are refused; nothing changes. */
    static void range(String what, Maker maker, Asker asker, long refusal, int least, long... wants) {
        for (int k = 0; k < wants.length; k++) {
            int value = least + k;
            stays(what + " " + value, maker, x -> asker.ask(x, value), wants[k]);
        }
        refusedOutside(what, maker, asker, refusal, least, least + wants.length - 1);
    }

    static void refusedOutside(String what, Maker maker, Asker asker, long refusal, int least, int most) {
        for (int bad : outside(least, most)) stays(what + " " + bad, maker, x -> asker.ask(x, bad), refusal);
    }

    /** A call that wants a PLATE is refused where there is none, be it that there never was one. */
    static void noPlate(Call call, long refusal) {
        stays("no PLATE", Edges::none, call, refusal);
        stays("no PLATE", Edges::bare, call, refusal);
    }

    static void noPlate(Call call) {
        noPlate(call, -2);
    }

    /** A call with a mask 0 .. 7, whatever else it answers. */
    static void masks(String what, Asker asker) {
        for (int mask = 0; mask < 8; mask++) {
            due(what + " " + mask + " may be", asker.ask(mirrored(), mask) == -2 ? 1 : 0, 0);
        }
        refusedOutside(what, Edges::mirrored, asker, -2, 0, 7);
        refusedOutside(what, Edges::busy, asker, -2, 0, 7);
        refusedOutside(what, Edges::empty, asker, -2, 0, 7);
    }

    /** Loads and moments: each -999 .. 999. What is within is told by the test itself. */
    static void loads(String what, Maker maker, Loaded asker, long refusal) {
        for (int good : new int[] {-999, -998, 998, 999}) {
            for (int at = 0; at < 3; at++) {
                due(what + " " + good + " may be", loaded(asker, at, good).on(maker.make()) == refusal ? 1 : 0, 0);
            }
        }
        for (int bad : new int[] {-1000, 1000, MIN, MAX}) {
            for (int at = 0; at < 3; at++) stays(what + " " + bad, maker, loaded(asker, at, bad), refusal);
        }
    }

    private static Call loaded(Loaded asker, int at, int load) {
        return x -> asker.ask(x, at == 0 ? load : 0, at == 1 ? load : 0, at == 2 ? load : 0);
    }

    // ---- running ----

    /** Runs all tests of a class; each of the promises must have one. */
    static void run(Class<?> tests, int... promises) {
        Method[] methods = tests.getDeclaredMethods();
        Arrays.sort(methods, Comparator.comparing(Method::getName));
        int run = 0;
        for (Method method : methods) {
            if (!method.getName().matches("p\\d\\d_\\w+")) continue;
            invoke(method);
            run++;
        }
        for (int promise : promises) {
            String head = String.format("p%02d_", promise);
            test = head;
            due("a test", Arrays.stream(methods).anyMatch(m -> m.getName().startsWith(head)) ? 1 : 0, 1);
        }
        System.out.println(run + " tests, " + asked + " answers, " + wrong + " of them not as due");
        if (wrong != 0) System.exit(1);
    }

    private static void invoke(Method method) {
        test = method.getName();
        int before = asked;
        try {
            method.setAccessible(true);
            method.invoke(null);
        } catch (InvocationTargetException e) {
            wrong++;
            System.out.println(test + ": threw " + e.getCause());
        } catch (IllegalAccessException e) {
            throw new IllegalStateException(e);
        }
        due("something is asked", asked > before ? 1 : 0, 1);
    }
}
