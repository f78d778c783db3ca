import java.math.BigInteger;
import java.util.ArrayList;
import java.util.Collections;
import java.util.HashMap;
import java.util.HashSet;
import java.util.List;
import java.util.Map;
import java.util.Set;
import java.util.TreeSet;

/**
 * The document once more, as slow and as near to its words as can be, with another way of holding
 * everything than the class has, so that both seldom err together.
 */
final class Model {
    static final int NONE = -1;
    static final long NO_SUCH = Long.MIN_VALUE;
    private static final String[] ANGLES = {"flat", "rise", "fall", "cross"};
    private static final String[] NUMBER_WORDS = {"one", "two", "three", "four", "limit"};

    /** A PLATE as it is between two acts; never changed once made. */
    private record State(int room, List<Integer> types) { }

    private record Kind(String name, int[] numbers) { }

    /** A PLATE with all its states, the latest last. */
    private record Told(int lines, List<Kind> kinds, List<State> states) { }

    private record Token(int place, String text) { }

    private static final class Fault extends Exception {
        private static final long serialVersionUID = 1L;
        final int what;
        final int place;

        Fault(int what, int place) {
            this.what = what;
            this.place = place;
        }
    }

    private List<Integer> tape = new ArrayList<>();
    private Told told = null;
    private final Told[] images = new Told[3];
    private int fault = 0;
    private int place = NONE;

    // ---- reading ----

    int feed(int a, int b, int c, int d, int e) {
        if (tape.size() > 580) return NONE;
        for (int number : new int[] {a, b, c, d, e}) {
            for (int k = 3; k >= 0; k--) tape.add((number >> 8 * k) & 0xff);
        }
        return tape.size();
    }

    int end(int n) {
        if (n < 0 || tape.size() < n) return NONE;
        tape = new ArrayList<>(tape.subList(0, n));
        return n;
    }

    int plate() {
        fault = 0;
        place = NONE;
        try {
            told = parse(tokens());
            return told == null ? 0 : told.lines;
        } catch (Fault f) {
            fault = f.what;
            place = f.place;
            return -4;
        } finally {
            tape = new ArrayList<>();
        }
    }

    private List<Token> tokens() {
        StringBuilder all = new StringBuilder();
        for (int b : tape) all.append((char) b);
        java.util.regex.Matcher m = java.util.regex.Pattern
            .compile("[a-z]+|[0-9]+|;|[^a-z0-9; \\n]").matcher(all);
        List<Token> found = new ArrayList<>();
        while (m.find()) found.add(new Token(m.start(), m.group()));
        found.add(new Token(all.length(), ""));
        return found;
    }

    private static boolean isWord(Token t) {
        return t.text.matches("[a-z]+");
    }

    private static void must(Token t, String word) throws Fault {
        if (!t.text.equals(word)) throw new Fault(1, t.place);
    }

    private static int number(Token t, int least, int most) throws Fault {
        if (!t.text.matches("[0-9]+")) throw new Fault(1, t.place);
        BigInteger value = new BigInteger(t.text);
        if (value.compareTo(BigInteger.valueOf(least)) < 0 || value.compareTo(BigInteger.valueOf(most)) > 0) {
            throw new Fault(2, t.place);
        }
        return value.intValue();
    }

    private static Told parse(List<Token> ts) throws Fault {
        int at = 0;
        int lines = 0;
        int room = 0;
        List<Kind> kinds = new ArrayList<>();
        List<Integer> types = new ArrayList<>();
        while (!ts.get(at).text.isEmpty()) {
            Token head = ts.get(at++);
            if (lines == 0) {
                must(head, "plate");
                must(ts.get(at++), "room");
                room = number(ts.get(at++), 1, 8);
            } else if (head.text.equals("kind")) {
                if (kinds.size() == 3) throw new Fault(3, head.place);
                Token name = ts.get(at++);
                checkName(name);
                if (indexOf(kinds, name.text) >= 0) throw new Fault(2, name.place);
                int[] numbers = new int[5];
                for (int k = 0; k < 5; k++) {
                    must(ts.get(at++), NUMBER_WORDS[k]);
                    numbers[k] = number(ts.get(at++), k == 0 || k == 4 ? 1 : 0, k == 4 ? 999 : 99);
                }
                kinds.add(new Kind(name.text, numbers));
            } else if (head.text.equals("ply")) {
                if (types.size() == 8) throw new Fault(3, head.place);
                Token name = ts.get(at++);
                checkName(name);
                int kind = indexOf(kinds, name.text);
                if (kind < 0) throw new Fault(2, name.place);
                Token angle = ts.get(at++);
                int which = List.of(ANGLES).indexOf(angle.text);
                if (which < 0) throw new Fault(1, angle.place);
                types.add(4 * kind + which);
            } else {
                throw new Fault(1, head.place);
            }
            must(ts.get(at++), ";");
            lines++;
        }
        if (lines == 0) return null;
        List<State> states = new ArrayList<>();
        states.add(new State(room, types));
        return new Told(lines, kinds, states);
    }

    private static void checkName(Token t) throws Fault {
        if (!isWord(t)) throw new Fault(1, t.place);
        if (t.text.length() > 6 || Set.of("plate", "kind", "ply").contains(t.text)) throw new Fault(2, t.place);
    }

    private static int indexOf(List<Kind> kinds, String name) {
        for (int k = 0; k < kinds.size(); k++) if (kinds.get(k).name.equals(name)) return k;
        return NONE;
    }

    int fault(int what) {
        return what == 0 ? fault : what == 1 ? place : NONE;
    }

    // ---- the PLATE ----

    private State state() {
        return told.states.get(told.states.size() - 1);
    }

    private List<Integer> types() {
        return told == null ? List.of() : state().types;
    }

    private int size() {
        return types().size();
    }

    int count(int what) {
        switch (what) {
            case 0: return told == null ? 0 : state().room;
            case 1: return told == null ? 0 : told.kinds.size();
            case 2: return size();
            case 3: return told == null ? 0 : told.states.size() - 1;
            case 4: return told == null ? 0 : told.lines;
            case 5: return tape.size();
            default: return NONE;
        }
    }

    private boolean noKind(int kind) {
        return told == null || kind < 0 || kind >= told.kinds.size();
    }

    private boolean noPly(int ply) {
        return ply < 0 || ply >= size();
    }

    private boolean noMask(int mask) {
        return told == null || mask < 0 || mask > 7;
    }

    int kind(int kind, int what) {
        if (noKind(kind) || what < 0 || what > 5) return -2;
        if (what < 5) return told.kinds.get(kind).numbers[what];
        return (int) types().stream().filter(t -> t / 4 == kind).count();
    }

    int ply(int ply, int what) {
        if (noPly(ply) || what < 0 || what > 4) return -2;
        int t = types().get(ply);
        return List.of(t / 4, t % 4, t, far(ply, size()), thick(ply, size())).get(what);
    }

    private static int far(int k, int n) {
        return 2 * k + 1 - n;
    }

    private static int thick(int k, int n) {
        return 3 * far(k, n) * far(k, n) + 1;
    }

    int many(int kind, int angle) {
        if (noKind(kind) || angle < 0 || angle > 3) return -2;
        return Collections.frequency(types(), 4 * kind + angle);
    }

    /** Twice Q of a TYPE at i, j, as the document tells it. */
    private long q(int type, int i, int j) {
        int[] u = told.kinds.get(type / 4).numbers;
        long one = u[0];
        long two = u[1];
        long three = u[2];
        long four = u[3];
        int angle = type % 4;
        long s = angle == 0 || angle == 3 ? 1 : -1;
        long c = angle == 0 ? 1 : angle == 3 ? -1 : 0;
        if (i == 0 && j == 0) return 2 * one + 2 * two * c + 2 * three * s;
        if (i == 1 && j == 1) return 2 * one - 2 * two * c + 2 * three * s;
        if (i == 2 && j == 2) return one - four - 2 * three * s;
        if (i + j == 1) return 2 * four - 2 * three * s;
        return angle == 1 ? two : angle == 2 ? -two : 0;
    }

    private long entry(List<Integer> types, int lost, int what, int i, int j) {
        long sum = 0;
        int n = types.size();
        for (int k = 0; k < n; k++) {
            if ((lost & 1 << k) != 0) continue;
            long times = what == 0 ? 1 : what == 1 ? far(k, n) : thick(k, n);
            sum += times * q(types.get(k), i, j);
        }
        return sum;
    }

    long stiff(int what, int i, int j) {
        if (told == null || what < 0 || what > 2 || i < 0 || i > 2 || j < 0 || j > 2) return NO_SUCH;
        return entry(types(), 0, what, i, j);
    }

    private boolean mirrored(List<Integer> types) {
        List<Integer> other = new ArrayList<>(types);
        Collections.reverse(other);
        return other.equals(types);
    }

    private long warpOf(List<Integer> types, int lost) {
        long sum = 0;
        for (int i = 0; i < 3; i++) for (int j = 0; j < 3; j++) sum += Math.abs(entry(types, lost, 1, i, j));
        return sum;
    }

    private long twistOf(List<Integer> types) {
        return Math.abs(entry(types, 0, 0, 0, 2)) + Math.abs(entry(types, 0, 0, 1, 2))
            + Math.abs(entry(types, 0, 2, 0, 2)) + Math.abs(entry(types, 0, 2, 1, 2));
    }

    private boolean is(List<Integer> types, int mask) {
        return ((mask & 1) == 0 || mirrored(types)) && ((mask & 2) == 0 || warpOf(types, 0) == 0)
            && ((mask & 4) == 0 || twistOf(types) == 0);
    }

    int even() {
        if (told == null) return -2;
        int bits = 0;
        for (int bit : new int[] {1, 2, 4}) if (is(types(), bit)) bits += bit;
        boolean balanced = true;
        for (int k = 0; k < told.kinds.size(); k++) balanced &= many(k, 1) == many(k, 2);
        return balanced ? bits + 8 : bits;
    }

    long warp() {
        return told == null ? -2 : warpOf(types(), 0);
    }

    long twist() {
        return told == null ? -2 : twistOf(types());
    }

    /** The lengths of all RUNS, the lowest first. */
    private static List<Integer> runs(List<Integer> types) {
        List<Integer> lengths = new ArrayList<>();
        for (int k = 0; k < types.size();) {
            int e = k;
            while (e < types.size() && types.get(e) % 4 == types.get(k) % 4) e++;
            lengths.add(e - k);
            k = e;
        }
        return lengths;
    }

    private static int longest(List<Integer> types) {
        return runs(types).stream().mapToInt(x -> x).max().orElse(0);
    }

    int run(int what) {
        if (told == null || what < 0 || what > 1) return -2;
        int longest = longest(types());
        if (what == 0) return longest;
        int at = 0;
        for (int length : runs(types())) {
            if (length == longest) return at;
            at += length;
        }
        return NONE;
    }

    private static int likesOf(List<Integer> types) {
        return types.size() - runs(types).size();
    }

    int likes() {
        return told == null ? -2 : likesOf(types());
    }

    // ---- STRAINS: by elimination, with fractions ----

    private record Fraction(BigInteger above, BigInteger below) {
        static Fraction of(BigInteger above, BigInteger below) {
            BigInteger g = above.gcd(below);
            if (below.signum() < 0) g = g.negate();
            return new Fraction(above.divide(g), below.divide(g));
        }

        static Fraction of(long whole) {
            return of(BigInteger.valueOf(whole), BigInteger.ONE);
        }

        Fraction times(Fraction o) {
            return of(above.multiply(o.above), below.multiply(o.below));
        }

        Fraction over(Fraction o) {
            return of(above.multiply(o.below), below.multiply(o.above));
        }

        Fraction plus(Fraction o) {
            return of(above.multiply(o.below).add(o.above.multiply(below)), below.multiply(o.below));
        }

        Fraction minus(Fraction o) {
            return plus(of(-1).times(o));
        }

        Fraction size() {
            return of(above.abs(), below);
        }

        int compare(Fraction o) {
            return above.multiply(o.below).compareTo(o.above.multiply(below));
        }

        boolean isZero() {
            return above.signum() == 0;
        }

        long part(int what) {
            return (what == 0 ? above : below).longValueExact();
        }
    }

    /** What A (or D) times it is n; null if DET is 0. */
    private Fraction[] solve(int what, int lost, int... n) {
        Fraction[][] rows = new Fraction[3][4];
        for (int i = 0; i < 3; i++) {
            for (int j = 0; j < 3; j++) {
                rows[i][j] = Fraction.of(entry(types(), lost, what, i, j)).over(Fraction.of(2));
            }
            rows[i][3] = Fraction.of(n[i]);
        }
        for (int c = 0; c < 3; c++) {
            int pivot = c;
            while (pivot < 3 && rows[pivot][c].isZero()) pivot++;
            if (pivot == 3) return null;
            Fraction[] swap = rows[c];
            rows[c] = rows[pivot];
            rows[pivot] = swap;
            for (int r = 0; r < 3; r++) {
                if (r == c) continue;
                Fraction by = rows[r][c].over(rows[c][c]);
                for (int j = c; j < 4; j++) rows[r][j] = rows[r][j].minus(by.times(rows[c][j]));
            }
        }
        Fraction[] out = new Fraction[3];
        for (int i = 0; i < 3; i++) out[i] = rows[i][3].over(rows[i][i]);
        return out;
    }

    private static boolean badLoads(int... n) {
        for (int load : n) if (load < -999 || load > 999) return true;
        return false;
    }

    private long yielding(int what, int i, int part, int... n) {
        if (told == null || badLoads(n) || i < 0 || i > 2 || part < 0 || part > 1) return NO_SUCH;
        Fraction[] e = solve(what, 0, n);
        return e == null || warpOf(types(), 0) != 0 ? NO_SUCH + 1 : e[i].part(part);
    }

    long strain(int n0, int n1, int n2, int i, int what) {
        return yielding(0, i, what, n0, n1, n2);
    }

    long bend(int m0, int m1, int m2, int i, int what) {
        return yielding(2, i, what, m0, m1, m2);
    }

    private Fraction along(Fraction[] e, int angle) {
        Fraction half = Fraction.of(1).over(Fraction.of(2));
        if (angle == 0) return e[0].size();
        if (angle == 3) return e[1].size();
        Fraction both = e[0].plus(e[1]);
        return (angle == 1 ? both.plus(e[2]) : both.minus(e[2])).times(half).size();
    }

    private int limit(int ply) {
        return told.kinds.get(types().get(ply) / 4).numbers[4];
    }

    long factor(int n0, int n1, int n2, int what) {
        if (told == null || badLoads(n0, n1, n2) || what < 0 || what > 2) return -2;
        Fraction[] e = solve(0, 0, n0, n1, n2);
        if (e == null || warpOf(types(), 0) != 0) return -6;
        Fraction least = null;
        int by = NONE;
        for (int k = 0; k < size(); k++) {
            Fraction strained = along(e, types().get(k) % 4);
            if (strained.isZero()) continue;
            Fraction f = Fraction.of(limit(k)).over(strained);
            if (least == null || f.compare(least) < 0) {
                least = f;
                by = k;
            }
        }
        if (least == null) return NONE;
        return what == 2 ? by : least.part(what);
    }

    long modulus(int axis, int what) {
        if (told == null || axis < 0 || axis > 1 || what < 0 || what > 1) return -2;
        BigInteger[][] a = new BigInteger[3][3];
        for (int i = 0; i < 3; i++) for (int j = 0; j < 3; j++) a[i][j] = BigInteger.valueOf(stiff(0, i, j));
        int o = 1 - axis;
        BigInteger minor = a[o][o].multiply(a[2][2]).subtract(a[o][2].multiply(a[2][o]));
        if (minor.signum() == 0) return -6;
        BigInteger det = BigInteger.ZERO;
        int[][] orders = {{0, 1, 2}, {1, 2, 0}, {2, 0, 1}, {0, 2, 1}, {2, 1, 0}, {1, 0, 2}};
        for (int k = 0; k < 6; k++) {
            BigInteger p = a[0][orders[k][0]].multiply(a[1][orders[k][1]]).multiply(a[2][orders[k][2]]);
            det = k < 3 ? det.add(p) : det.subtract(p);
        }
        return Fraction.of(det, minor).part(what);
    }

    private boolean within(int lost, int... n) {
        Fraction[] e = solve(0, lost, n);
        if (e == null) return false;
        for (int k = 0; k < size(); k++) {
            if ((lost & 1 << k) == 0 && along(e, types().get(k) % 4).compare(Fraction.of(limit(k))) > 0) return false;
        }
        return true;
    }

    int carries(int axis) {
        if (told == null || axis < 0 || axis > 1) return -2;
        if (solve(0, 0, 0, 0, 0) == null) return NONE;
        int best = 0;
        int beyond = 1000;
        while (beyond - best > 1) {
            int middle = (best + beyond) / 2;
            if (within(0, axis == 0 ? middle : 0, axis == 0 ? 0 : middle, 0)) best = middle; else beyond = middle;
        }
        return best;
    }

    int spared(int n0, int n1, int n2) {
        if (told == null || badLoads(n0, n1, n2)) return -2;
        int bits = 0;
        for (int k = 0; k < size(); k++) if (within(1 << k, n0, n1, n2)) bits += 1 << k;
        return bits;
    }

    int frailSet(int n0, int n1, int n2) {
        if (told == null || badLoads(n0, n1, n2)) return -2;
        for (int n = 0; n <= size(); n++) {
            for (int set = 0; set < 1 << size(); set++) {
                if (Integer.bitCount(set) == n && !within(set, n0, n1, n2)) return set;
            }
        }
        throw new IllegalStateException("all lost is beyond");
    }

    int frail(int n0, int n1, int n2) {
        int set = frailSet(n0, n1, n2);
        return set < 0 ? set : Integer.bitCount(set);
    }

    long lost(int ply, int what) {
        if (noPly(ply) || what < 0 || what > 2) return NO_SUCH;
        return what == 2 ? warpOf(types(), 1 << ply) : entry(types(), 1 << ply, what == 0 ? 2 : 0, 0, 0);
    }

    int worst(int what) {
        if (told == null || what < 0 || what > 2) return -2;
        int worst = NONE;
        for (int k = 0; k < size(); k++) {
            if (worst == NONE) worst = k;
            else if (what == 2 ? lost(k, 2) > lost(worst, 2) : lost(k, what) < lost(worst, what)) worst = k;
        }
        return worst;
    }

    // ---- ORDERS ----

    private List<Integer> madeOf = null;
    private List<List<Integer>> made = null;

    /** All rows, least first, whatever their RUNS. */
    private List<List<Integer>> permutations() {
        List<Integer> sorted = new ArrayList<>(types());
        Collections.sort(sorted);
        if (!sorted.equals(madeOf)) {
            TreeSet<List<Integer>> all = new TreeSet<>((a, b) -> {
                for (int k = 0; k < a.size(); k++) if (!a.get(k).equals(b.get(k))) return a.get(k) - b.get(k);
                return 0;
            });
            extend(new ArrayList<>(), sorted, all);
            made = new ArrayList<>(all);
            madeOf = sorted;
        }
        return made;
    }

    private static void extend(List<Integer> row, List<Integer> left, TreeSet<List<Integer>> all) {
        if (left.isEmpty()) {
            all.add(new ArrayList<>(row));
            return;
        }
        for (Integer next : new HashSet<>(left)) {
            List<Integer> rest = new ArrayList<>(left);
            rest.remove(next);
            row.add(next);
            extend(row, rest, all);
            row.remove(row.size() - 1);
        }
    }

    private List<List<Integer>> rows(int mask) {
        List<List<Integer>> out = new ArrayList<>();
        for (List<Integer> row : permutations()) if (longest(row) <= state().room && is(row, mask)) out.add(row);
        return out;
    }

    int orders(int mask) {
        return noMask(mask) ? -2 : rows(mask).size();
    }

    int order(int mask, int k, int i) {
        if (noMask(mask) || k < 0 || noPly(i)) return -2;
        List<List<Integer>> rows = rows(mask);
        return k < rows.size() ? rows.get(k).get(i) : NONE;
    }

    int rank(int mask) {
        return noMask(mask) ? -2 : rows(mask).indexOf(types());
    }

    private long goodness(List<Integer> row, int what) {
        return what == 3 ? -likesOf(row) : entry(row, 0, 2, what, what);
    }

    int best(int mask, int what) {
        if (noMask(mask) || what < 0 || what > 3) return -2;
        List<List<Integer>> rows = rows(mask);
        int best = NONE;
        for (int k = 0; k < rows.size(); k++) {
            if (best == NONE || goodness(rows.get(k), what) > goodness(rows.get(best), what)) best = k;
        }
        return best;
    }

    long bestBy(int mask, int what) {
        int best = best(mask, what);
        if (best < 0) return best;
        long has = goodness(rows(mask).get(best), what);
        return what == 3 ? -has : has;
    }

    private int unlikePlaces(List<Integer> a, List<Integer> b) {
        int sum = 0;
        for (int k = 0; k < a.size(); k++) if (!a.get(k).equals(b.get(k))) sum++;
        return sum;
    }

    int nearestAt(int mask) {
        if (noMask(mask)) return -2;
        List<List<Integer>> rows = rows(mask);
        for (int d = 0; d <= 8; d++) {
            for (int k = 0; k < rows.size(); k++) if (unlikePlaces(rows.get(k), types()) == d) return k;
        }
        return NONE;
    }

    int nearest(int mask) {
        int at = nearestAt(mask);
        return at < 0 ? at : unlikePlaces(rows(mask).get(at), types());
    }

    int unlike(int mask) {
        if (noMask(mask)) return -2;
        Set<List<Long>> bends = new HashSet<>();
        for (List<Integer> row : rows(mask)) bends.add(List.of(goodness(row, 0), goodness(row, 1), goodness(row, 2)));
        return bends.size();
    }

    /** By trying: rows that one exchange, two exchanges .. lead to. */
    int exchanges(int mask, int k) {
        if (noMask(mask) || k < 0) return -2;
        List<List<Integer>> rows = rows(mask);
        if (k >= rows.size()) return NONE;
        Map<List<Integer>, Integer> ways = new HashMap<>();
        List<List<Integer>> edge = new ArrayList<>();
        ways.put(types(), 0);
        edge.add(types());
        for (int at = 0; at < edge.size(); at++) {
            List<Integer> row = edge.get(at);
            if (row.equals(rows.get(k))) return ways.get(row);
            for (int i = 0; i + 1 < row.size(); i++) {
                List<Integer> next = new ArrayList<>(row);
                Collections.swap(next, i, i + 1);
                if (ways.putIfAbsent(next, ways.get(row) + 1) == null) edge.add(next);
            }
        }
        throw new IllegalStateException("every row can be come to");
    }

    // ---- THINNER ----

    private boolean thinFits(int set, int mask) {
        List<Integer> row = new ArrayList<>();
        for (int k = 0; k < size(); k++) if ((set & 1 << k) != 0) row.add(types().get(k));
        return longest(row) <= state().room && is(row, mask);
    }

    private List<Integer> thinSets(int n, int mask) {
        List<Integer> sets = new ArrayList<>();
        for (int set = 0; set < 1 << size(); set++) {
            if (Integer.bitCount(set) == n && thinFits(set, mask)) sets.add(set);
        }
        return sets;
    }

    int thinner(int n, int mask) {
        return noMask(mask) || n < 1 || n > size() ? -2 : thinSets(n, mask).size();
    }

    int thin(int n, int mask, int k) {
        if (noMask(mask) || n < 1 || n > size() || k < 0) return -2;
        List<Integer> sets = thinSets(n, mask);
        return k < sets.size() ? sets.get(k) : NONE;
    }

    /** The sets come to with 0, 1, 2 .. steps; each where it is first come to. */
    private List<TreeSet<Integer>> levels(int mask, int d) {
        int all = (1 << size()) - 1;
        List<TreeSet<Integer>> levels = new ArrayList<>();
        if (!thinFits(all, mask)) return levels;
        Set<Integer> known = new HashSet<>(List.of(all));
        TreeSet<Integer> level = new TreeSet<>(known);
        while (!level.isEmpty()) {
            levels.add(level);
            TreeSet<Integer> next = new TreeSet<>();
            for (int from : level) {
                for (int set = 1; set < from; set++) {
                    if (oneStep(from, set, d) && !known.contains(set) && thinFits(set, mask)) next.add(set);
                }
            }
            known.addAll(next);
            level = next;
        }
        return levels;
    }

    private static boolean oneStep(int from, int set, int d) {
        int dropped = Integer.bitCount(from & ~set);
        return (set & ~from) == 0 && dropped >= 1 && dropped <= d;
    }

    private boolean noBlend(int mask, int d) {
        return noMask(mask) || d < 1 || d > 3;
    }

    int blend(int mask, int d) {
        if (noBlend(mask, d)) return -2;
        return levels(mask, d).stream().flatMap(Set::stream).mapToInt(Integer::bitCount).min().orElse(NONE);
    }

    /** The plates on the way that step() tells. */
    private List<Integer> way(int mask, int d) {
        List<TreeSet<Integer>> levels = levels(mask, d);
        int fewest = blend(mask, d);
        List<Integer> way = new ArrayList<>();
        for (int at = 0; at < levels.size(); at++) {
            for (int set : levels.get(at)) {
                if (Integer.bitCount(set) != fewest) continue;
                way.add(set);
                for (int up = at - 1; up >= 0; up--) {
                    for (int from : levels.get(up)) {
                        if (oneStep(from, way.get(0), d)) {
                            way.add(0, from);
                            break;
                        }
                    }
                }
                return way;
            }
        }
        return way;
    }

    int blends(int mask, int d) {
        if (noBlend(mask, d)) return -2;
        int n = way(mask, d).size();
        return n == 0 ? NONE : n;
    }

    int comes(int mask, int d, int set) {
        if (noBlend(mask, d) || set < 1 || set >= 1 << size()) return -2;
        return levels(mask, d).stream().anyMatch(level -> level.contains(set)) ? 1 : 0;
    }

    int step(int mask, int d, int i) {
        if (noBlend(mask, d) || i < 0) return -2;
        List<Integer> way = way(mask, d);
        return i < way.size() ? way.get(i) : NONE;
    }

    // ---- acts ----

    private boolean noMore() {
        return told.states.size() > 30;
    }

    private void act(int room, List<Integer> types) {
        told.states.add(new State(room, types));
    }

    int swap(int ply, int other) {
        if (noPly(ply) || noPly(other)) return -2;
        if (ply == other || types().get(ply).equals(types().get(other)) || noMore()) return -5;
        List<Integer> row = new ArrayList<>(types());
        Collections.swap(row, ply, other);
        act(state().room, row);
        return 0;
    }

    int turn(int ply, int angle) {
        if (noPly(ply) || angle < 0 || angle > 3) return -2;
        int type = types().get(ply);
        if (type % 4 == angle || noMore()) return -5;
        List<Integer> row = new ArrayList<>(types());
        row.set(ply, type / 4 * 4 + angle);
        act(state().room, row);
        return type % 4;
    }

    int put(int at, int kind, int angle) {
        if (told == null || at < 0 || at > size() || noKind(kind) || angle < 0 || angle > 3) return -2;
        if (size() == 8 || noMore()) return -5;
        List<Integer> row = new ArrayList<>(types());
        row.add(at, 4 * kind + angle);
        act(state().room, row);
        return size();
    }

    int drop(int ply) {
        if (noPly(ply)) return -2;
        if (noMore()) return -5;
        List<Integer> row = new ArrayList<>(types());
        row.remove(ply);
        act(state().room, row);
        return size();
    }

    int become(int mask, int k) {
        if (noMask(mask) || k < 0) return -2;
        List<List<Integer>> rows = rows(mask);
        if (k >= rows.size()) return NONE;
        int other = unlikePlaces(rows.get(k), types());
        if (other == 0 || noMore()) return -5;
        act(state().room, rows.get(k));
        return other;
    }

    int keep(int set) {
        if (told == null || set < 1 || set >= 1 << size()) return -2;
        int go = size() - Integer.bitCount(set);
        if (go == 0 || noMore()) return -5;
        List<Integer> row = new ArrayList<>();
        for (int k = 0; k < size(); k++) if ((set & 1 << k) != 0) row.add(types().get(k));
        act(state().room, row);
        return go;
    }

    int room(int room) {
        if (told == null || room < 1 || room > 8) return -2;
        if (state().room == room || noMore()) return -5;
        act(room, types());
        return 0;
    }

    private static List<Integer> whirled(List<Integer> types, int n) {
        List<Integer> round = List.of(0, 1, 3, 2);
        List<Integer> row = new ArrayList<>();
        for (int t : types) row.add(t / 4 * 4 + round.get((round.indexOf(t % 4) + n) % 4));
        return row;
    }

    private static List<Integer> overturned(List<Integer> types) {
        List<Integer> row = new ArrayList<>();
        for (int t : types) row.add(0, t % 4 == 1 ? t + 1 : t % 4 == 2 ? t - 1 : t);
        return row;
    }

    int whirl(int n) {
        if (told == null || n < 1 || n > 3) return -2;
        if (size() == 0 || noMore()) return -5;
        act(state().room, whirled(types(), n));
        return size();
    }

    int upset() {
        if (told == null) return -2;
        List<Integer> row = overturned(types());
        int other = unlikePlaces(row, types());
        if (other == 0 || noMore()) return -5;
        act(state().room, row);
        return other;
    }

    int undo() {
        if (told == null) return -2;
        if (told.states.size() == 1) return -5;
        told.states.remove(told.states.size() - 1);
        return told.states.size() - 1;
    }

    int anew() {
        if (told == null) return -2;
        int were = told.states.size() - 1;
        while (told.states.size() > 1) told.states.remove(1);
        return were;
    }

    // ---- IMAGES ----

    private static boolean noImage(int k) {
        return k < 0 || k > 2;
    }

    private static Told copy(Told t) {
        return new Told(t.lines, t.kinds, new ArrayList<>(t.states));
    }

    int image(int k) {
        if (told == null || noImage(k)) return -2;
        images[k] = copy(told);
        return 0;
    }

    int back(int k) {
        if (noImage(k)) return -2;
        if (images[k] == null) return -6;
        told = copy(images[k]);
        return 0;
    }

    private List<Integer> imageTypes(int k) {
        List<State> states = images[k].states;
        return states.get(states.size() - 1).types;
    }

    int turned(int k) {
        if (told == null || noImage(k)) return -2;
        if (images[k] == null) return -6;
        for (int n = 0; n < 4; n++) if (whirled(types(), n).equals(imageTypes(k))) return n;
        for (int n = 0; n < 4; n++) if (whirled(overturned(types()), n).equals(imageTypes(k))) return 4 + n;
        return NONE;
    }

    private int bar(int k, int l) {
        if (noImage(k) || noImage(l)) return -2;
        return images[k] == null || images[l] == null ? -6 : 0;
    }

    int alike(int k, int l) {
        if (bar(k, l) != 0) return bar(k, l);
        List<Integer> one = new ArrayList<>(imageTypes(k));
        List<Integer> two = new ArrayList<>(imageTypes(l));
        Collections.sort(one);
        Collections.sort(two);
        return one.equals(two) ? 1 : 0;
    }

    /** All rows that leaving out some or none leaves. */
    private static Set<List<Integer>> leftOut(List<Integer> types) {
        Set<List<Integer>> all = new HashSet<>();
        for (int set = 0; set < 1 << types.size(); set++) {
            List<Integer> row = new ArrayList<>();
            for (int k = 0; k < types.size(); k++) if ((set & 1 << k) != 0) row.add(types.get(k));
            all.add(row);
        }
        return all;
    }

    int partOf(int k, int l) {
        if (bar(k, l) != 0) return bar(k, l);
        return leftOut(imageTypes(l)).contains(imageTypes(k)) ? 1 : 0;
    }

    int common(int k, int l) {
        if (bar(k, l) != 0) return bar(k, l);
        Set<List<Integer>> both = leftOut(imageTypes(k));
        both.retainAll(leftOut(imageTypes(l)));
        return both.stream().mapToInt(List::size).max().orElse(0);
    }
}
