import java.util.Arrays;

/** Plates of plies: how stiff, how even, in which orders, how thin and how safe they can be. */
public final class PlyStacker {
    public static final int NONE = -1;
    public static final long NO_SUCH = Long.MIN_VALUE;

    private static final int WRONG = -2;
    private static final int FAULTY = -4;
    private static final int REFUSED = -5;
    private static final int UNFIT = -6;

    private static final int MOST_KINDS = 3;
    private static final int MOST_PLIES = 8;
    private static final int MOST_ROOM = 8;
    private static final int MOST_ACTS = 30;
    private static final int MOST_BYTES = 600;
    private static final int MOST_LOAD = 999;
    private static final int ANGLES = 4;
    private static final int ALL_MASKS = 8;
    private static final int IMAGES = 3;

    private static final int RISE = 1;
    private static final int FALL = 2;
    private static final int CROSS = 3;

    private static final int MIRRORED = 1;
    private static final int FLAT = 2;
    private static final int STRAIGHT = 4;
    private static final int BALANCED = 8;

    private static final int NO_TOKEN = 0;
    private static final int WORD = 1;
    private static final int NUMBER = 2;
    private static final int SIGN = 3;
    private static final int BLANK = 4;
    private static final int END = 5;

    private static final int IN_PLANE = 0;
    private static final int COUPLED = 1;
    private static final int BENDING = 2;

    private final Tape tape;
    private final Reader reader;
    private final Plate now;
    private final Plate[] images;
    private final Orders choices;
    private final Ways ways;
    private final Stress stress;

    public PlyStacker() {
        tape = new Tape();
        reader = new Reader(tape);
        now = new Plate();
        images = new Plate[IMAGES];
        for (int k = 0; k < IMAGES; k++) {
            images[k] = new Plate();
        }
        choices = new Orders();
        ways = new Ways();
        stress = new Stress();
    }

    // ---- the TAPE and what it tells ----

    public int feed(int a, int b, int c, int d, int e) {
        if (tape.size + 20 > MOST_BYTES) {
            return NONE;
        }
        tape.add(a);
        tape.add(b);
        tape.add(c);
        tape.add(d);
        tape.add(e);
        return tape.size;
    }

    public int end(int n) {
        if (n < 0 || n > tape.size) {
            return NONE;
        }
        tape.size = n;
        return n;
    }

    public int plate() {
        boolean good = reader.read();
        tape.size = 0;
        if (!good) {
            return FAULTY;
        }
        now.copy(reader.draft);
        choices.forget();
        return now.lines;
    }

    public int fault(int what) {
        if (what == 0) {
            return reader.fault;
        }
        return what == 1 ? reader.place : NONE;
    }

    // ---- what the PLATE is ----

    public int count(int what) {
        switch (what) {
            case 0:
                return now.roomNow();
            case 1:
                return now.kinds;
            case 2:
                return now.plies();
            case 3:
                return now.acts;
            case 4:
                return now.lines;
            case 5:
                return tape.size;
            default:
                return NONE;
        }
    }

    public int kind(int kind, int what) {
        if (!isKind(kind) || what < 0 || what > 5) {
            return WRONG;
        }
        return what == 5 ? now.pliesOfKind(kind) : now.number(kind, what);
    }

    public int ply(int ply, int what) {
        if (!isPly(ply)) {
            return WRONG;
        }
        int type = now.typeAt(ply);
        switch (what) {
            case 0:
                return type / ANGLES;
            case 1:
                return type % ANGLES;
            case 2:
                return type;
            case 3:
                return Rows.farOf(ply, now.plies());
            case 4:
                return Rows.thickOf(Rows.farOf(ply, now.plies()));
            default:
                return WRONG;
        }
    }

    public int many(int kind, int angle) {
        if (!isKind(kind) || !isAngle(angle)) {
            return WRONG;
        }
        return Rows.howMany(now.row(), now.plies(), kind * ANGLES + angle);
    }

    public long stiff(int what, int i, int j) {
        if (!now.told || what < IN_PLANE || what > BENDING || !isAxis(i) || !isAxis(j)) {
            return NO_SUCH;
        }
        return now.total(0, what, 3 * i + j);
    }

    public int even() {
        if (!now.told) {
            return WRONG;
        }
        int bits = now.shape(now.row(), now.plies());
        return now.isBalanced() ? bits | BALANCED : bits;
    }

    public long warp() {
        return now.told ? now.warpWithout(0) : WRONG;
    }

    public long twist() {
        return now.told ? now.twistNow() : WRONG;
    }

    public int run(int what) {
        if (!now.told || what < 0 || what > 1) {
            return WRONG;
        }
        int longest = Rows.longestRun(now.row(), now.plies());
        return what == 0 ? longest : Rows.firstRun(now.row(), now.plies(), longest);
    }

    public int likes() {
        return now.told ? Rows.likeNeighbours(now.row(), now.plies()) : WRONG;
    }

    // ---- STRAINS, BENDS, FACTORS ----

    public long strain(int n0, int n1, int n2, int i, int what) {
        if (!areLoads(n0, n1, n2) || !isAxis(i) || what < 0 || what > 1) {
            return NO_SUCH;
        }
        return yielding(IN_PLANE, i, what, n0, n1, n2);
    }

    public long bend(int m0, int m1, int m2, int i, int what) {
        if (!areLoads(m0, m1, m2) || !isAxis(i) || what < 0 || what > 1) {
            return NO_SUCH;
        }
        return yielding(BENDING, i, what, m0, m1, m2);
    }

    private long yielding(int which, int i, int what, int n0, int n1, int n2) {
        stress.take(now, which, 0);
        if (!isFlat() || stress.det == 0) {
            return NO_SUCH + 1;
        }
        stress.solve(n0, n1, n2);
        return Stress.inLowestTerms(stress.part(i), stress.det, what);
    }

    public long factor(int n0, int n1, int n2, int what) {
        if (!areLoads(n0, n1, n2) || what < 0 || what > 2) {
            return WRONG;
        }
        stress.take(now, IN_PLANE, 0);
        if (!isFlat() || stress.det == 0) {
            return UNFIT;
        }
        stress.solve(n0, n1, n2);
        int ply = stress.weakest(now);
        if (ply == NONE || what == 2) {
            return ply;
        }
        long strained = Math.abs(stress.along(Rows.angleAt(now.row(), ply)));
        return Stress.inLowestTerms(stress.bound(now, ply), strained, what);
    }

    public long modulus(int axis, int what) {
        if (!now.told || axis < 0 || axis > 1 || what < 0 || what > 1) {
            return WRONG;
        }
        stress.take(now, IN_PLANE, 0);
        long minor = stress.cofactor(axis, axis);
        return minor == 0 ? UNFIT : Stress.inLowestTerms(stress.det, minor, what);
    }

    public int carries(int axis) {
        if (!now.told || axis < 0 || axis > 1) {
            return WRONG;
        }
        stress.take(now, IN_PLANE, 0);
        if (stress.det == 0) {
            return NONE;
        }
        stress.solve(axis == 0 ? 1 : 0, axis == 1 ? 1 : 0, 0);
        return stress.greatestTimes(now, MOST_LOAD);
    }

    // ---- ORDERS ----

    public int orders(int mask) {
        if (!isMask(mask)) {
            return WRONG;
        }
        choices.prepare(now);
        return choices.howMany(mask);
    }

    public int order(int mask, int k, int i) {
        if (!isMask(mask) || k < 0 || !isPly(i)) {
            return WRONG;
        }
        choices.prepare(now);
        int at = choices.find(mask, k);
        return at == NONE ? NONE : Rows.typeAt(choices.rowAt(at), i);
    }

    public int rank(int mask) {
        if (!isMask(mask)) {
            return WRONG;
        }
        choices.prepare(now);
        return choices.placeOf(mask, now.row());
    }

    public int best(int mask, int what) {
        if (!isMask(mask) || what < 0 || what > 3) {
            return WRONG;
        }
        choices.prepare(now);
        int at = choices.bestIndex(now, mask, what);
        return at == NONE ? NONE : choices.placeAt(mask, at);
    }

    public long bestBy(int mask, int what) {
        if (!isMask(mask) || what < 0 || what > 3) {
            return WRONG;
        }
        choices.prepare(now);
        int at = choices.bestIndex(now, mask, what);
        return at == NONE ? NONE : choices.merit(now, at, what);
    }

    public int nearest(int mask) {
        if (!isMask(mask)) {
            return WRONG;
        }
        choices.prepare(now);
        int at = choices.nearestIndex(mask, now.row());
        return at == NONE ? NONE : Rows.unlikePlaces(choices.rowAt(at), now.row(), now.plies());
    }

    public int nearestAt(int mask) {
        if (!isMask(mask)) {
            return WRONG;
        }
        choices.prepare(now);
        int at = choices.nearestIndex(mask, now.row());
        return at == NONE ? NONE : choices.placeAt(mask, at);
    }

    public int unlike(int mask) {
        if (!isMask(mask)) {
            return WRONG;
        }
        choices.prepare(now);
        return choices.unlikeBends(now, mask);
    }

    public int exchanges(int mask, int k) {
        if (!isMask(mask) || k < 0) {
            return WRONG;
        }
        choices.prepare(now);
        int at = choices.find(mask, k);
        return at == NONE ? NONE : Rows.neighbourExchanges(now.row(), choices.rowAt(at), now.plies());
    }

    // ---- THINNER plates ----

    public int thinner(int n, int mask) {
        if (!isMask(mask) || n < 1 || n > now.plies()) {
            return WRONG;
        }
        return ways.thinnerSets(now, n, mask);
    }

    public int thin(int n, int mask, int k) {
        if (!isMask(mask) || n < 1 || n > now.plies() || k < 0) {
            return WRONG;
        }
        return ways.thinnerSet(now, n, mask, k);
    }

    public int blend(int mask, int d) {
        if (!isMask(mask) || !isStride(d)) {
            return WRONG;
        }
        ways.explore(now, mask, d);
        int goal = ways.goal();
        return goal == NONE ? NONE : Integer.bitCount(goal);
    }

    public int blends(int mask, int d) {
        if (!isMask(mask) || !isStride(d)) {
            return WRONG;
        }
        ways.explore(now, mask, d);
        int goal = ways.goal();
        return goal == NONE ? NONE : ways.steps(goal) + 1;
    }

    public int comes(int mask, int d, int set) {
        if (!isMask(mask) || !isStride(d) || !isSet(set)) {
            return WRONG;
        }
        ways.explore(now, mask, d);
        return ways.steps(set) == NONE ? 0 : 1;
    }

    public int step(int mask, int d, int i) {
        if (!isMask(mask) || !isStride(d) || i < 0) {
            return WRONG;
        }
        ways.explore(now, mask, d);
        return ways.onTheWay(i);
    }

    // ---- PLIES that are LOST ----

    public int frail(int n0, int n1, int n2) {
        int set = frailSet(n0, n1, n2);
        return set < 0 ? set : Integer.bitCount(set);
    }

    public int frailSet(int n0, int n1, int n2) {
        return areLoads(n0, n1, n2) ? stress.fewestLost(now, n0, n1, n2) : WRONG;
    }

    public long lost(int ply, int what) {
        if (!isPly(ply) || what < 0 || what > 2) {
            return NO_SUCH;
        }
        return leftWithout(ply, what);
    }

    public int worst(int what) {
        if (!now.told || what < 0 || what > 2) {
            return WRONG;
        }
        int worst = NONE;
        long harm = 0;
        for (int k = 0; k < now.plies(); k++) {
            long left = leftWithout(k, what);
            long harmed = what == 2 ? left : -left;
            if (worst == NONE || harmed > harm) {
                worst = k;
                harm = harmed;
            }
        }
        return worst;
    }

    private long leftWithout(int ply, int what) {
        int set = 1 << ply;
        if (what == 2) {
            return now.warpWithout(set);
        }
        return now.total(set, what == 0 ? BENDING : IN_PLANE, 0);
    }

    public int spared(int n0, int n1, int n2) {
        if (!areLoads(n0, n1, n2)) {
            return WRONG;
        }
        int bits = 0;
        for (int k = 0; k < now.plies(); k++) {
            if (stress.withinLimits(now, 1 << k, n0, n1, n2)) {
                bits |= 1 << k;
            }
        }
        return bits;
    }

    // ---- acts ----

    public int swap(int ply, int other) {
        if (!isPly(ply) || !isPly(other)) {
            return WRONG;
        }
        int one = now.typeAt(ply);
        int two = now.typeAt(other);
        if (one == two || now.isFull()) {
            return REFUSED;
        }
        int row = Rows.with(Rows.with(now.row(), ply, two), other, one);
        now.act(row, now.plies(), now.roomNow());
        return 0;
    }

    public int turn(int ply, int angle) {
        if (!isPly(ply) || !isAngle(angle)) {
            return WRONG;
        }
        int type = now.typeAt(ply);
        int had = type % ANGLES;
        if (had == angle || now.isFull()) {
            return REFUSED;
        }
        now.act(Rows.with(now.row(), ply, type - had + angle), now.plies(), now.roomNow());
        return had;
    }

    public int put(int at, int kind, int angle) {
        if (!now.told || at < 0 || at > now.plies() || !isKind(kind) || !isAngle(angle)) {
            return WRONG;
        }
        int n = now.plies();
        if (n >= MOST_PLIES || now.isFull()) {
            return REFUSED;
        }
        now.act(Rows.inserted(now.row(), n, at, kind * ANGLES + angle), n + 1, now.roomNow());
        return n + 1;
    }

    public int drop(int ply) {
        if (!isPly(ply)) {
            return WRONG;
        }
        if (now.isFull()) {
            return REFUSED;
        }
        stayWith(now.allPlies() - (1 << ply));
        return now.plies();
    }

    public int keep(int set) {
        if (!isSet(set)) {
            return WRONG;
        }
        if (set == now.allPlies() || now.isFull()) {
            return REFUSED;
        }
        int ahead = now.plies();
        stayWith(set);
        return ahead - now.plies();
    }

    private void stayWith(int set) {
        now.act(Rows.chosen(now.row(), now.plies(), set), Integer.bitCount(set), now.roomNow());
    }

    public int become(int mask, int k) {
        if (!isMask(mask) || k < 0) {
            return WRONG;
        }
        choices.prepare(now);
        int at = choices.find(mask, k);
        return at == NONE ? NONE : relay(choices.rowAt(at));
    }

    public int room(int room) {
        if (!now.told || room < 1 || room > MOST_ROOM) {
            return WRONG;
        }
        if (room == now.roomNow() || now.isFull()) {
            return REFUSED;
        }
        now.act(now.row(), now.plies(), room);
        return 0;
    }

    public int whirl(int n) {
        if (!now.told || n < 1 || n > 3) {
            return WRONG;
        }
        int plies = now.plies();
        if (plies == 0 || now.isFull()) {
            return REFUSED;
        }
        now.act(Rows.whirled(now.row(), plies, n), plies, now.roomNow());
        return plies;
    }

    public int upset() {
        return now.told ? relay(Rows.overturned(now.row(), now.plies())) : WRONG;
    }

    /** The act by which as many PLIES lie in another row: of how many places the TYPE changes. */
    private int relay(int row) {
        int changed = Rows.unlikePlaces(now.row(), row, now.plies());
        if (changed == 0 || now.isFull()) {
            return REFUSED;
        }
        now.act(row, now.plies(), now.roomNow());
        return changed;
    }

    public int undo() {
        if (!now.told) {
            return WRONG;
        }
        if (now.acts == 0) {
            return REFUSED;
        }
        now.acts--;
        return now.acts;
    }

    public int anew() {
        if (!now.told) {
            return WRONG;
        }
        int were = now.acts;
        now.acts = 0;
        return were;
    }

    // ---- IMAGES ----

    public int image(int k) {
        if (!now.told || !isImage(k)) {
            return WRONG;
        }
        images[k].copy(now);
        return 0;
    }

    public int back(int k) {
        if (!isImage(k)) {
            return WRONG;
        }
        if (!images[k].told) {
            return UNFIT;
        }
        now.copy(images[k]);
        choices.forget();
        return 0;
    }

    public int turned(int k) {
        if (!now.told || !isImage(k)) {
            return WRONG;
        }
        if (!images[k].told) {
            return UNFIT;
        }
        int n = now.plies();
        if (images[k].plies() != n) {
            return NONE;
        }
        int over = Rows.overturned(now.row(), n);
        for (int way = 0; way < 8; way++) {
            int from = way < 4 ? now.row() : over;
            if (Rows.whirled(from, n, way % 4) == images[k].row()) {
                return way;
            }
        }
        return NONE;
    }

    public int alike(int k, int l) {
        int bar = imagesBar(k, l);
        return bar != 0 ? bar : images[k].isOfSamePlies(images[l]) ? 1 : 0;
    }

    public int partOf(int k, int l) {
        int bar = imagesBar(k, l);
        return bar != 0 ? bar : images[k].isPartOf(images[l]) ? 1 : 0;
    }

    public int common(int k, int l) {
        int bar = imagesBar(k, l);
        return bar != 0 ? bar : images[k].longestCommon(images[l]);
    }

    /** What forbids to compare two IMAGES, 0 if nothing does. */
    private int imagesBar(int k, int l) {
        if (!isImage(k) || !isImage(l)) {
            return WRONG;
        }
        return images[k].told && images[l].told ? 0 : UNFIT;
    }

    // ---- what arguments may be ----

    private boolean isKind(int kind) {
        return now.told && kind >= 0 && kind < now.kinds;
    }

    private boolean isPly(int ply) {
        return now.told && ply >= 0 && ply < now.plies();
    }

    private boolean isMask(int mask) {
        return now.told && mask >= 0 && mask < ALL_MASKS;
    }

    private boolean isSet(int set) {
        return now.told && set >= 1 && set <= now.allPlies();
    }

    private boolean areLoads(int n0, int n1, int n2) {
        return now.told && isLoad(n0) && isLoad(n1) && isLoad(n2);
    }

    private boolean isFlat() {
        return (now.shape(now.row(), now.plies()) & FLAT) != 0;
    }

    private static boolean isLoad(int load) {
        return load >= -MOST_LOAD && load <= MOST_LOAD;
    }

    private static boolean isAngle(int angle) {
        return angle >= 0 && angle < ANGLES;
    }

    private static boolean isAxis(int axis) {
        return axis >= 0 && axis <= 2;
    }

    private static boolean isStride(int d) {
        return d >= 1 && d <= 3;
    }

    private boolean isImage(int k) {
        return k >= 0 && k < images.length && images[k] != null;
    }

    /** Rows of TYPES in one number, four bits a PLY, PLY 0 in the lowest; bits above the row are 0. */
    private static final class Rows {
        private static final int[] ONWARD = {1, 3, 0, 2};
        private static final int[] OVERTURNED = {0, 2, 1, 3};

        private static int typeAt(int row, int k) {
            return row >>> 4 * k & 15;
        }

        private static int angleAt(int row, int k) {
            return row >>> 4 * k & 3;
        }

        private static int with(int row, int k, int type) {
            return row & ~(15 << 4 * k) | type << 4 * k;
        }

        private static int farOf(int k, int n) {
            return 2 * k + 1 - n;
        }

        private static int thickOf(int far) {
            return 3 * far * far + 1;
        }

        private static int howMany(int row, int n, int type) {
            int sum = 0;
            for (int k = 0; k < n; k++) {
                if (typeAt(row, k) == type) {
                    sum++;
                }
            }
            return sum;
        }

        private static int sorted(int row, int n) {
            int made = 0;
            int at = 0;
            for (int type = 0; type < 16; type++) {
                for (int k = 0; k < n; k++) {
                    if (typeAt(row, k) == type) {
                        made |= type << 4 * at;
                        at++;
                    }
                }
            }
            return made;
        }

        private static boolean isMirrored(int row, int n) {
            for (int k = 0; k < n / 2; k++) {
                if (typeAt(row, k) != typeAt(row, n - 1 - k)) {
                    return false;
                }
            }
            return true;
        }

        private static int longestRun(int row, int n) {
            int longest = 0;
            int length = 0;
            for (int k = 0; k < n; k++) {
                length = k > 0 && angleAt(row, k) == angleAt(row, k - 1) ? length + 1 : 1;
                longest = Math.max(longest, length);
            }
            return longest;
        }

        /** The first PLY of the first RUN of a length; NONE without PLIES. */
        private static int firstRun(int row, int n, int longest) {
            int length = 0;
            for (int k = 0; k < n; k++) {
                length = k > 0 && angleAt(row, k) == angleAt(row, k - 1) ? length + 1 : 1;
                if (length == longest) {
                    return k + 1 - length;
                }
            }
            return NONE;
        }

        private static int likeNeighbours(int row, int n) {
            int sum = 0;
            for (int k = 1; k < n; k++) {
                if (angleAt(row, k) == angleAt(row, k - 1)) {
                    sum++;
                }
            }
            return sum;
        }

        private static int unlikePlaces(int row, int other, int n) {
            int sum = 0;
            for (int k = 0; k < n; k++) {
                if (typeAt(row, k) != typeAt(other, k)) {
                    sum++;
                }
            }
            return sum;
        }

        /** PLIES of one TYPE never pass one another, so each place takes the lowest one that is left. */
        private static int neighbourExchanges(int row, int wanted, int n) {
            int sum = 0;
            int taken = 0;
            for (int k = 0; k < n; k++) {
                int from = lowestLeft(row, n, taken, typeAt(wanted, k));
                sum += from - Integer.bitCount(taken & (1 << from) - 1);
                taken |= 1 << from;
            }
            return sum;
        }

        private static int lowestLeft(int row, int n, int taken, int type) {
            for (int k = 0; k < n; k++) {
                if ((taken >> k & 1) == 0 && typeAt(row, k) == type) {
                    return k;
                }
            }
            return 0;
        }

        private static int chosen(int row, int n, int set) {
            int made = 0;
            int at = 0;
            for (int k = 0; k < n; k++) {
                if ((set >> k & 1) != 0) {
                    made |= typeAt(row, k) << 4 * at;
                    at++;
                }
            }
            return made;
        }

        private static int inserted(int row, int n, int at, int type) {
            int made = 0;
            for (int k = 0; k <= n; k++) {
                int here = k < at ? typeAt(row, k) : k == at ? type : typeAt(row, k - 1);
                made |= here << 4 * k;
            }
            return made;
        }

        private static int whirled(int row, int n, int turns) {
            int made = row;
            for (int k = 0; k < n; k++) {
                int angle = angleAt(row, k);
                for (int t = 0; t < turns; t++) {
                    angle = ONWARD[angle & 3];
                }
                made = with(made, k, typeAt(row, k) & 12 | angle);
            }
            return made;
        }

        private static int overturned(int row, int n) {
            int made = 0;
            for (int k = 0; k < n; k++) {
                int type = typeAt(row, n - 1 - k);
                made |= (type & 12 | OVERTURNED[type & 3]) << 4 * k;
            }
            return made;
        }
    }

    /** A PLATE with its acts: what stands is the row, size and ROOM behind the latest act. */
    private static final class Plate {
        private static final int[] SIGN_TWO = {1, 0, 0, -1};
        private static final int[] SIGN_THREE = {1, -1, -1, 1};
        private static final int[] SIGN_SKEW = {0, 1, -1, 0};
        private static final int[] UPPER_CELLS = {0, 1, 2, 4, 8};

        private final int[] numbers = new int[5 * MOST_KINDS];
        /** Twice Q, nine cells a TYPE; as long as four bits of TYPE can reach. */
        private final int[] cells = new int[9 * 16];
        private final int[] rows = new int[MOST_ACTS + 1];
        private final int[] sizes = new int[MOST_ACTS + 1];
        private final int[] rooms = new int[MOST_ACTS + 1];
        private boolean told;
        private int lines;
        private int kinds;
        private int acts;

        private void clear() {
            told = false;
            lines = 0;
            kinds = 0;
            acts = 0;
            rows[0] = 0;
            sizes[0] = 0;
            rooms[0] = 0;
        }

        private void copy(Plate other) {
            System.arraycopy(other.numbers, 0, numbers, 0, numbers.length);
            System.arraycopy(other.cells, 0, cells, 0, cells.length);
            System.arraycopy(other.rows, 0, rows, 0, rows.length);
            System.arraycopy(other.sizes, 0, sizes, 0, sizes.length);
            System.arraycopy(other.rooms, 0, rooms, 0, rooms.length);
            told = other.told;
            lines = other.lines;
            kinds = other.kinds;
            acts = other.acts;
        }

        private boolean isFull() {
            return acts >= MOST_ACTS;
        }

        private void act(int row, int size, int room) {
            if (acts < 0 || isFull()) {
                return;
            }
            acts++;
            rows[acts] = row;
            sizes[acts] = size;
            rooms[acts] = room;
        }

        private int row() {
            return acts < 0 || acts >= rows.length ? 0 : rows[acts];
        }

        private int plies() {
            return acts < 0 || acts >= sizes.length ? 0 : sizes[acts];
        }

        private int roomNow() {
            return acts < 0 || acts >= rooms.length ? 0 : rooms[acts];
        }

        private int allPlies() {
            return (1 << plies()) - 1;
        }

        private int typeAt(int k) {
            return Rows.typeAt(row(), k);
        }

        private int number(int kind, int what) {
            return kind < 0 || kind >= MOST_KINDS || what < 0 || what > 4 ? 0 : numbers[5 * kind + what];
        }

        private void setNumber(int kind, int what, int value) {
            if (kind >= 0 && kind < MOST_KINDS && what >= 0 && what <= 4) {
                numbers[5 * kind + what] = value;
            }
        }

        private int limitAt(int k) {
            return number(Rows.typeAt(row(), k) / ANGLES, 4);
        }

        /** Twice Q of the four TYPES of a KIND, from its NUMBERS. */
        private void fillCells(int kind) {
            int one = number(kind, 0);
            int two = number(kind, 1);
            int three = number(kind, 2);
            int four = number(kind, 3);
            for (int angle = 0; angle < ANGLES; angle++) {
                int type = kind * ANGLES + angle;
                int lean = 2 * two * SIGN_TWO[angle];
                int cross = 2 * three * SIGN_THREE[angle];
                int skew = two * SIGN_SKEW[angle];
                setCell(type, 0, 2 * one + lean + cross);
                setCell(type, 4, 2 * one - lean + cross);
                setCell(type, 1, 2 * four - cross);
                setCell(type, 3, 2 * four - cross);
                setCell(type, 8, one - four - cross);
                setCell(type, 2, skew);
                setCell(type, 6, skew);
                setCell(type, 5, skew);
                setCell(type, 7, skew);
            }
        }

        private int cellAt(int type, int cell) {
            return cell < 0 || cell > 8 ? 0 : cells[(type & 15) * 9 + cell];
        }

        private void setCell(int type, int cell, int value) {
            if (cell >= 0 && cell <= 8) {
                cells[(type & 15) * 9 + cell] = value;
            }
        }

        /** Twice an entry of A, B or D, PLIES of a set LOST. */
        private long total(int gone, int which, int cell) {
            return totalOf(row(), plies(), gone, which, cell);
        }

        /** The same for another row; ORDERS ask it of each of theirs, so FAR goes along. */
        private long totalOf(int row, int n, int gone, int which, int cell) {
            if (cell < 0 || cell > 8) {
                return 0;
            }
            int sum = 0;
            int rest = row;
            int far = 1 - n;
            for (int k = 0; k < n; k++) {
                int here = (gone >> k & 1) == 0 ? cells[(rest & 15) * 9 + cell] : 0;
                sum += which == BENDING ? Rows.thickOf(far) * here : which == COUPLED ? far * here : here;
                rest >>>= 4;
                far += 2;
            }
            return sum;
        }

        private long warpWithout(int gone) {
            long sum = 0;
            for (int cell = 0; cell < 9; cell++) {
                sum += Math.abs(total(gone, COUPLED, cell));
            }
            return sum;
        }

        private long twistNow() {
            return Math.abs(total(0, IN_PLANE, 2)) + Math.abs(total(0, IN_PLANE, 5))
                + Math.abs(total(0, BENDING, 2)) + Math.abs(total(0, BENDING, 5));
        }

        /** Bits of MIRRORED, FLAT, STRAIGHT for a row of TYPES of this PLATE's KINDS. */
        private int shape(int row, int n) {
            int bits = Rows.isMirrored(row, n) ? MIRRORED : 0;
            if (bits != 0 || isRowFlat(row, n)) {
                bits |= FLAT;
            }
            return isRowStraight(row, n) ? bits | STRAIGHT : bits;
        }

        /** B is the same on both sides of its diagonal, and at 0 2 what it is at 1 2. */
        private boolean isRowFlat(int row, int n) {
            for (int cell : UPPER_CELLS) {
                if (totalOf(row, n, 0, COUPLED, cell) != 0) {
                    return false;
                }
            }
            return true;
        }

        private boolean isRowStraight(int row, int n) {
            return totalOf(row, n, 0, IN_PLANE, 2) == 0 && totalOf(row, n, 0, BENDING, 2) == 0;
        }

        private boolean suits(int row, int n, int mask) {
            return Rows.longestRun(row, n) <= roomNow() && (shape(row, n) & mask) == mask;
        }

        private int pliesOfKind(int kind) {
            int sum = 0;
            for (int angle = 0; angle < ANGLES; angle++) {
                sum += Rows.howMany(row(), plies(), kind * ANGLES + angle);
            }
            return sum;
        }

        private boolean isBalanced() {
            for (int kind = 0; kind < kinds; kind++) {
                int rising = Rows.howMany(row(), plies(), kind * ANGLES + RISE);
                if (rising != Rows.howMany(row(), plies(), kind * ANGLES + FALL)) {
                    return false;
                }
            }
            return true;
        }

        private boolean isOfSamePlies(Plate other) {
            return plies() == other.plies()
                && Rows.sorted(row(), plies()) == Rows.sorted(other.row(), other.plies());
        }

        private boolean isPartOf(Plate whole) {
            return longestCommon(whole) == plies();
        }

        private int longestCommon(Plate other) {
            int[] best = new int[MOST_PLIES + 1];
            for (int k = 0; k < plies(); k++) {
                int before = 0;
                for (int l = 1; l <= other.plies() && l <= MOST_PLIES; l++) {
                    int above = best[l];
                    boolean same = typeAt(k) == other.typeAt(l - 1);
                    best[l] = same ? before + 1 : Math.max(above, best[l - 1]);
                    before = above;
                }
            }
            return best[Math.min(other.plies(), MOST_PLIES)];
        }
    }

    /** The bytes that were fed. */
    private static final class Tape {
        private final byte[] bytes = new byte[MOST_BYTES];
        private int size;

        private void add(int number) {
            for (int shift = 24; shift >= 0; shift -= 8) {
                if (size >= 0 && size < MOST_BYTES) {
                    bytes[size] = (byte) (number >>> shift);
                    size++;
                }
            }
        }

        /** A byte as 0 .. 255; NONE outside of what was fed. */
        private int at(int k) {
            return k < 0 || k >= size || k >= MOST_BYTES ? NONE : bytes[k] & 255;
        }

        private int classAt(int k) {
            if (k < 0 || k >= size || k >= MOST_BYTES) {
                return END;
            }
            int sign = bytes[k];
            if (sign >= 'a' && sign <= 'z') {
                return WORD;
            }
            if (sign >= '0' && sign <= '9') {
                return NUMBER;
            }
            if (sign == 32 || sign == 10) {
                return BLANK;
            }
            return sign == ';' ? SIGN : NO_TOKEN;
        }
    }

    /** Reads a TEXT, TOKEN by TOKEN, into a draft of a PLATE. */
    private static final class Reader {
        private static final int MISPLACED = 1;
        private static final int UNSUITED = 2;
        private static final int TOO_MANY = 3;

        private static final int LONGEST_NAME = 6;
        private static final int BEYOND_BOUNDS = 1000;

        private final Plate draft = new Plate();
        private final int[] nameStarts = new int[MOST_KINDS];
        private final int[] nameLengths = new int[MOST_KINDS];
        private final Tape text;
        private int token;
        private int start;
        private int after;
        private int fault;
        private int place = NONE;

        private Reader(Tape tape) {
            text = tape;
        }

        private boolean read() {
            fault = 0;
            place = NONE;
            after = 0;
            draft.clear();
            next();
            boolean good = true;
            for (int k = 0; k <= MOST_BYTES && good && token != END; k++) {
                good = readLine();
            }
            draft.told = draft.lines > 0;
            return good;
        }

        private void next() {
            start = after;
            for (int k = 0; k < MOST_BYTES && text.classAt(start) == BLANK; k++) {
                start++;
            }
            token = text.classAt(start);
            after = start + 1;
            boolean grows = token == WORD || token == NUMBER;
            for (int k = 0; k < MOST_BYTES && grows && text.classAt(after) == token; k++) {
                after++;
            }
        }

        /** What the digits of the TOKEN tell; all that is beyond every bound counts as one number. */
        private int tokenValue() {
            int value = 0;
            for (int k = start; k < after; k++) {
                value = Math.min(10 * value + text.at(k) - '0', BEYOND_BOUNDS);
            }
            return value;
        }

        private boolean refuse(int what) {
            fault = what;
            place = start;
            return false;
        }

        private boolean readLine() {
            boolean good;
            if (draft.lines == 0) {
                good = readPlate();
            } else if (spells("kind")) {
                good = readKind();
            } else if (spells("ply")) {
                good = readPly();
            } else {
                good = refuse(MISPLACED);
            }
            if (!good) {
                return false;
            }
            if (token != SIGN) {
                return refuse(MISPLACED);
            }
            draft.lines++;
            next();
            return true;
        }

        private boolean readPlate() {
            if (!pass("plate") || !pass("room") || !isNumberIn(1, MOST_ROOM)) {
                return false;
            }
            draft.rooms[0] = tokenValue();
            next();
            return true;
        }

        private boolean readKind() {
            int kind = draft.kinds;
            if (kind < 0 || kind >= MOST_KINDS) {
                return refuse(TOO_MANY);
            }
            next();
            if (!isName()) {
                return false;
            }
            if (toldKind() != NONE) {
                return refuse(UNSUITED);
            }
            nameStarts[kind] = start;
            nameLengths[kind] = after - start;
            next();
            boolean good = readNumber("one", kind, 0, 1, 99) && readNumber("two", kind, 1, 0, 99)
                && readNumber("three", kind, 2, 0, 99) && readNumber("four", kind, 3, 0, 99)
                && readNumber("limit", kind, 4, 1, 999);
            if (good) {
                draft.kinds++;
                draft.fillCells(kind);
            }
            return good;
        }

        private boolean readNumber(String word, int kind, int what, int least, int most) {
            if (!pass(word) || !isNumberIn(least, most)) {
                return false;
            }
            draft.setNumber(kind, what, tokenValue());
            next();
            return true;
        }

        private boolean readPly() {
            int n = draft.sizes[0];
            if (n >= MOST_PLIES) {
                return refuse(TOO_MANY);
            }
            next();
            if (!isName()) {
                return false;
            }
            int kind = toldKind();
            if (kind == NONE) {
                return refuse(UNSUITED);
            }
            next();
            int angle = spelledAngle();
            if (angle == NONE) {
                return refuse(MISPLACED);
            }
            draft.rows[0] |= kind * ANGLES + angle << 4 * n;
            draft.sizes[0] = n + 1;
            next();
            return true;
        }

        private boolean pass(String word) {
            if (!spells(word)) {
                return refuse(MISPLACED);
            }
            next();
            return true;
        }

        private boolean isNumberIn(int least, int most) {
            if (token != NUMBER) {
                return refuse(MISPLACED);
            }
            int value = tokenValue();
            return value >= least && value <= most || refuse(UNSUITED);
        }

        private boolean isName() {
            if (token != WORD) {
                return refuse(MISPLACED);
            }
            boolean taken = spells("plate") || spells("kind") || spells("ply");
            return !taken && after - start <= LONGEST_NAME || refuse(UNSUITED);
        }

        private boolean spells(String word) {
            if (token != WORD || after - start != word.length()) {
                return false;
            }
            for (int k = 0; k < word.length(); k++) {
                if (text.at(start + k) != word.charAt(k)) {
                    return false;
                }
            }
            return true;
        }

        /** The KIND whose NAME is the TOKEN. */
        private int toldKind() {
            for (int kind = 0; kind < draft.kinds && kind < MOST_KINDS; kind++) {
                if (repeats(nameStarts[kind], nameLengths[kind])) {
                    return kind;
                }
            }
            return NONE;
        }

        private boolean repeats(int from, int length) {
            if (after - start != length) {
                return false;
            }
            for (int k = 0; k < length; k++) {
                if (text.at(start + k) != text.at(from + k)) {
                    return false;
                }
            }
            return true;
        }

        private int spelledAngle() {
            if (spells("flat")) {
                return 0;
            }
            if (spells("rise")) {
                return RISE;
            }
            if (spells("fall")) {
                return FALL;
            }
            return spells("cross") ? CROSS : NONE;
        }
    }

    /** Twice A or D of a PLATE, and how it yields to loads: whole numbers over DET. */
    private static final class Stress {
        private final long[] cells = new long[9];
        private final long[] parts = new long[3];
        private long det;

        private void take(Plate plate, int which, int gone) {
            for (int cell = 0; cell < 9; cell++) {
                cells[cell] = plate.total(gone, which, cell);
            }
            det = cells[0] * cofactor(0, 0) + cells[1] * cofactor(0, 1) + cells[2] * cofactor(0, 2);
        }

        private long cofactor(int i, int j) {
            int i1 = (i + 1) % 3;
            int i2 = (i + 2) % 3;
            int j1 = (j + 1) % 3;
            int j2 = (j + 2) % 3;
            return cellAt(i1, j1) * cellAt(i2, j2) - cellAt(i1, j2) * cellAt(i2, j1);
        }

        private long cellAt(int i, int j) {
            return i < 0 || i > 2 || j < 0 || j > 2 ? 0 : cells[3 * i + j];
        }

        /** The cells are twice the stiffness, so twice the loads stand against them. */
        private void solve(int n0, int n1, int n2) {
            for (int i = 0; i < 3; i++) {
                parts[i] = 2 * (cofactor(0, i) * n0 + cofactor(1, i) * n1 + cofactor(2, i) * n2);
            }
        }

        private long part(int i) {
            return i < 0 || i > 2 ? 0 : parts[i];
        }

        /** How much a PLY of an ANGLE is strained along itself, times twice DET. */
        private long along(int angle) {
            switch (angle) {
                case 0:
                    return 2 * parts[0];
                case RISE:
                    return parts[0] + parts[1] + parts[2];
                case FALL:
                    return parts[0] + parts[1] - parts[2];
                default:
                    return 2 * parts[1];
            }
        }

        private long strainedAt(Plate plate, int k) {
            return Math.abs(along(Rows.angleAt(plate.row(), k)));
        }

        /** The LIMIT of a PLY, in the measure of along(). */
        private long bound(Plate plate, int k) {
            return plate.limitAt(k) * 2 * Math.abs(det);
        }

        /** The PLY with the least LIMIT by strain: two fractions compare by their cross products. */
        private int weakest(Plate plate) {
            int weakest = NONE;
            for (int k = 0; k < plate.plies(); k++) {
                long strained = strainedAt(plate, k);
                if (strained == 0) {
                    continue;
                }
                if (weakest == NONE
                    || plate.limitAt(k) * strainedAt(plate, weakest) < plate.limitAt(weakest) * strained) {
                    weakest = k;
                }
            }
            return weakest;
        }

        /** How many times the loads at most are within LIMITS, up to a bound. */
        private int greatestTimes(Plate plate, int most) {
            long times = most;
            for (int k = 0; k < plate.plies(); k++) {
                long strained = strainedAt(plate, k);
                if (strained != 0) {
                    times = Math.min(times, bound(plate, k) / strained);
                }
            }
            return (int) times;
        }

        private boolean withinLimits(Plate plate, int gone, int n0, int n1, int n2) {
            take(plate, IN_PLANE, gone);
            if (det == 0) {
                return false;
            }
            solve(n0, n1, n2);
            for (int k = 0; k < plate.plies(); k++) {
                if ((gone >> k & 1) == 0 && strainedAt(plate, k) > bound(plate, k)) {
                    return false;
                }
            }
            return true;
        }

        /** The least of the smallest sets that, LOST, lead beyond LIMITS: all PLIES always do. */
        private int fewestLost(Plate plate, int n0, int n1, int n2) {
            int best = plate.allPlies();
            for (int set = 0; set < plate.allPlies(); set++) {
                if (Integer.bitCount(set) < Integer.bitCount(best)
                    && !withinLimits(plate, set, n0, n1, n2)) {
                    best = set;
                }
            }
            return best;
        }

        private static long inLowestTerms(long above, long below, int what) {
            long shared = commonDivisor(Math.abs(above), Math.abs(below));
            if (shared == 0) {
                return 0;
            }
            long measure = below < 0 ? -shared : shared;
            return what == 0 ? above / measure : below / measure;
        }

        private static long commonDivisor(long a, long b) {
            long one = a;
            long two = b;
            for (int k = 0; k < 200 && two != 0; k++) {
                long rest = one % two;
                one = two;
                two = rest;
            }
            return one;
        }
    }

    /** All rows that PLIES can lie in, the least first, each with what it is; kept until PLIES change. */
    private static final class Orders {
        private static final long ROW_BITS = 0xFFFFFFFFL;
        private static final int DIGIT_BITS = 21;
        private static final long DIGIT_ZERO = 1L << 20;
        private static final long SPREAD = 0x9E3779B97F4A7C15L;

        private long[] rows = new long[24];
        private long[] seen = new long[32];
        private int size;
        private boolean ready;
        private int pool;
        private int plies;
        private int room;

        private void forget() {
            ready = false;
        }

        private void prepare(Plate plate) {
            int sorted = Rows.sorted(plate.row(), plate.plies());
            if (ready && pool == sorted && plies == plate.plies() && room == plate.roomNow()) {
                return;
            }
            pool = sorted;
            plies = plate.plies();
            room = plate.roomNow();
            size = 0;
            int most = mostRows();
            if (rows.length < most) {
                rows = new long[most];
            }
            lay(plate, 0, 0, 0, 0, 0, 0);
            ready = true;
        }

        /** How many rows there would be if no RUN were too long. */
        private int mostRows() {
            int most = 1;
            int same = 0;
            for (int k = 0; k < plies; k++) {
                same = k > 0 && Rows.typeAt(pool, k) == Rows.typeAt(pool, k - 1) ? same + 1 : 1;
                most = most * (k + 1) / Math.max(1, same);
            }
            return most;
        }

        /**
         * Lays the rest of a row in all ways. What B has at 0 0 and D at 0 2 by then comes along:
         * few rows end with 0 there, and only these need a closer look.
         */
        private void lay(Plate plate, int at, int row, int length, int taken, int warped, int twisted) {
            if (at >= plies || at >= MOST_PLIES) {
                store(row, shapeOf(plate, row, warped, twisted));
                return;
            }
            int below = at > 0 ? Rows.angleAt(row, at - 1) : NONE;
            int far = Rows.farOf(at, plies);
            int thick = Rows.thickOf(far);
            int tried = NONE;
            for (int k = 0; k < plies; k++) {
                if ((taken >> k & 1) != 0) {
                    continue;
                }
                int type = pool >>> 4 * k & 15;
                int grown = (type & 3) == below ? length + 1 : 1;
                if (type == tried || grown > room) {
                    continue;
                }
                tried = type;
                int bow = warped + far * plate.cellAt(type, 0);
                int skew = twisted + thick * plate.cellAt(type, 2);
                lay(plate, at + 1, row | type << 4 * at, grown, taken | 1 << k, bow, skew);
            }
        }

        private int shapeOf(Plate plate, int row, int warped, int twisted) {
            int bits = Rows.isMirrored(row, plies) ? MIRRORED : 0;
            if (bits != 0 || warped == 0 && plate.isRowFlat(row, plies)) {
                bits |= FLAT;
            }
            return twisted == 0 && plate.isRowStraight(row, plies) ? bits | STRAIGHT : bits;
        }

        private void store(int row, int shape) {
            if (size >= 0 && size < rows.length) {
                rows[size] = row & ROW_BITS | (long) shape << 32;
                size++;
            }
        }

        private boolean isAmong(int mask, int at) {
            return at >= 0 && at < rows.length && ((int) (rows[at] >>> 32) & mask) == mask;
        }

        private int rowAt(int at) {
            return at < 0 || at >= rows.length ? 0 : (int) rows[at];
        }

        private int howMany(int mask) {
            return placeAt(mask, size);
        }

        /** How many of the mask's rows stand ahead of an index. */
        private int placeAt(int mask, int at) {
            int place = 0;
            for (int k = 0; k < at; k++) {
                if (isAmong(mask, k)) {
                    place++;
                }
            }
            return place;
        }

        /** The index of the k-th of the mask's rows. */
        private int find(int mask, int k) {
            int place = 0;
            for (int at = 0; at < size; at++) {
                if (isAmong(mask, at)) {
                    if (place == k) {
                        return at;
                    }
                    place++;
                }
            }
            return NONE;
        }

        private int placeOf(int mask, int row) {
            int place = 0;
            for (int at = 0; at < size; at++) {
                if (isAmong(mask, at)) {
                    if (rowAt(at) == row) {
                        return place;
                    }
                    place++;
                }
            }
            return NONE;
        }

        private long merit(Plate plate, int at, int what) {
            if (what == 3) {
                return Rows.likeNeighbours(rowAt(at), plies);
            }
            return plate.totalOf(rowAt(at), plies, 0, BENDING, 4 * what);
        }

        private int bestIndex(Plate plate, int mask, int what) {
            int best = NONE;
            long most = 0;
            for (int at = 0; at < size; at++) {
                if (isAmong(mask, at)) {
                    long merit = merit(plate, at, what);
                    long wanted = what == 3 ? -merit : merit;
                    if (best == NONE || wanted > most) {
                        best = at;
                        most = wanted;
                    }
                }
            }
            return best;
        }

        private int nearestIndex(int mask, int row) {
            int nearest = NONE;
            int least = MOST_PLIES + 1;
            for (int at = 0; at < size; at++) {
                if (isAmong(mask, at)) {
                    int unlike = Rows.unlikePlaces(rowAt(at), row, plies);
                    if (unlike < least) {
                        nearest = at;
                        least = unlike;
                    }
                }
            }
            return nearest;
        }

        private int unlikeBends(Plate plate, int mask) {
            int slots = 32;
            for (int k = 0; k < 12 && slots < size + size / 2; k++) {
                slots *= 2;
            }
            if (seen.length < slots) {
                seen = new long[slots];
            }
            Arrays.fill(seen, 0L);
            int sum = 0;
            for (int at = 0; at < size; at++) {
                if (isAmong(mask, at) && isNew(bendKey(plate, rowAt(at)))) {
                    sum++;
                }
            }
            return sum;
        }

        /** Three entries of D as digits of one number, never 0. */
        private long bendKey(Plate plate, int row) {
            long key = 0;
            for (int what = 0; what < 3; what++) {
                long digit = plate.totalOf(row, plies, 0, BENDING, 4 * what) + DIGIT_ZERO;
                key = key << DIGIT_BITS | digit;
            }
            return key;
        }

        /** The length of seen is a power of two, and more than a third of it stays 0. */
        private boolean isNew(long key) {
            int slot = (int) (key * SPREAD >>> 33);
            for (int k = 0; k < seen.length; k++) {
                int at = slot + k & seen.length - 1;
                if (seen[at] == key) {
                    return false;
                }
                if (seen[at] == 0) {
                    seen[at] = key;
                    return true;
                }
            }
            return false;
        }
    }

    /** THINNER plates, and in how few steps each is come to from all PLIES. */
    private static final class Ways {
        private final int[] depths = new int[1 << MOST_PLIES];
        private int all;
        private int stride;

        private static boolean isThin(Plate plate, int set, int mask) {
            int row = Rows.chosen(plate.row(), plate.plies(), set);
            return plate.suits(row, Integer.bitCount(set), mask);
        }

        private int thinnerSets(Plate plate, int n, int mask) {
            int sum = 0;
            for (int set = 1; set <= plate.allPlies(); set++) {
                if (Integer.bitCount(set) == n && isThin(plate, set, mask)) {
                    sum++;
                }
            }
            return sum;
        }

        private int thinnerSet(Plate plate, int n, int mask, int k) {
            int place = 0;
            for (int set = 1; set <= plate.allPlies(); set++) {
                if (Integer.bitCount(set) == n && isThin(plate, set, mask)) {
                    if (place == k) {
                        return set;
                    }
                    place++;
                }
            }
            return NONE;
        }

        /** A step leads to a lesser set, so the greater ones are settled first. */
        private void explore(Plate plate, int mask, int dropped) {
            stride = dropped;
            all = Math.min(plate.allPlies(), depths.length - 1);
            Arrays.fill(depths, NONE);
            if (all < 0 || !isThin(plate, all, mask)) {
                return;
            }
            depths[all] = 0;
            for (int set = all - 1; set >= 1; set--) {
                int depth = leastDepthAbove(set);
                if (depth != NONE && isThin(plate, set, mask)) {
                    depths[set] = depth + 1;
                }
            }
        }

        private int leastDepthAbove(int set) {
            int least = NONE;
            for (int from = set + 1; from <= all; from++) {
                if (leads(from, set) && (least == NONE || depths[from] < least)) {
                    least = depths[from];
                }
            }
            return least;
        }

        private boolean leads(int from, int set) {
            return (from & set) == set && steps(from) != NONE
                && Integer.bitCount(from) - Integer.bitCount(set) <= stride;
        }

        private int steps(int set) {
            return set < 0 || set >= depths.length ? NONE : depths[set];
        }

        /** The least of the sets of fewest PLIES with the shortest way. */
        private int goal() {
            int goal = NONE;
            for (int set = 0; set <= all; set++) {
                if (steps(set) != NONE && (goal == NONE || isNearerGoal(set, goal))) {
                    goal = set;
                }
            }
            return goal;
        }

        private boolean isNearerGoal(int set, int goal) {
            int fewer = Integer.bitCount(goal) - Integer.bitCount(set);
            return fewer > 0 || fewer == 0 && steps(set) < steps(goal);
        }

        private int onTheWay(int i) {
            int set = goal();
            if (set == NONE || i > steps(set)) {
                return NONE;
            }
            for (int k = steps(set); k > i; k--) {
                set = leastAhead(set);
            }
            return set;
        }

        private int leastAhead(int set) {
            for (int from = set + 1; from <= all; from++) {
                if (leads(from, set) && steps(from) == steps(set) - 1) {
                    return from;
                }
            }
            return all;
        }
    }
}
