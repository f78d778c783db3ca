/** Boundaries of promises 33 to 35 and 38 to 40: PLIES that are LOST, LIMITS (Terms IV, VII). */
public final class BoundaryLostTest {
    /** Three PLIES; twice A at 0 0 and 1 1 is two for each that is left, the LIMIT is 100. */
    private static PlyStacker three() {
        return Edges.told(3, "kind s one 1 two 0 three 0 four 0 limit 100;", "s flat", "s flat", "s flat");
    }

    private static PlyStacker single(int limit) {
        return Edges.told(1, "kind s one 1 two 0 three 0 four 0 limit " + limit + ";", "s cross");
    }

    private static final String[] ANGLES = {"flat", "rise", "fall", "cross"};

    /** So many PLIES of one ANGLE; twice A of each: 10 0 0, 0 10 0, 0 0 5; the LIMIT is 9. */
    private static PlyStacker inclined(int angle, int n) {
        String[] plies = new String[n];
        java.util.Arrays.fill(plies, "s " + ANGLES[angle]);
        return Edges.told(8, "kind s one 5 two 0 three 0 four 0 limit 9;", plies);
    }

    /**
     * For each ANGLE loads on one PLY of inclined(), and 1 if they are within LIMITS: STRAINS are the loads by 5, 5
     * and two and a half.
     */
    private static final int[][][] WITHIN = {
        {{45, 999, 999, 1}, {46, 0, 0, 0}, {-45, -999, 999, 1}, {-46, 0, 0, 0}},
        {{45, 45, 0, 1}, {45, 46, 0, 0}, {0, 0, 45, 1}, {0, 0, 46, 0}, {45, 0, 45, 0}, {45, 0, -45, 1}, {0, 45, 45, 0},
            {0, 45, -45, 1}, {45, -46, 0, 1}, {-45, -46, 0, 0}},
        {{45, 45, 0, 1}, {45, 46, 0, 0}, {0, 0, -45, 1}, {0, 0, -46, 0}, {45, 0, 45, 1}, {45, 0, -45, 0}, {0, 45, 45, 1},
            {0, 45, -45, 0}, {45, -46, 0, 1}, {-45, -46, 0, 0}},
        {{999, 45, 999, 1}, {0, 46, 0, 0}, {-999, -45, 999, 1}, {0, -46, 0, 0}}};

    // ---- 33, 34 ----

    static void p33_eachAngleAlongItself() {
        for (int angle = 0; angle < 4; angle++) {
            PlyStacker x = inclined(angle, 1);
            for (int[] row : WITHIN[angle]) Edges.due(ANGLES[angle], x.frail(row[0], row[1], row[2]), row[3]);
        }
    }

    static void p34_eachAngleAlongItself() {
        for (int angle = 0; angle < 4; angle++) {
            PlyStacker x = inclined(angle, 1);
            for (int[] row : WITHIN[angle]) Edges.due(ANGLES[angle], x.frailSet(row[0], row[1], row[2]), row[3]);
        }
    }

    static void p35_eachAngleAlongItself() {
        int[][] due = {{45, 999}, {90, 90}, {90, 90}, {999, 45}};
        for (int k = 0; k < 4; k++) {
            int angle = k;
            Edges.range(ANGLES[k], () -> inclined(angle, 1), (x, axis) -> x.carries(axis), -2, 0, due[k][0], due[k][1]);
        }
    }

    static void p40_eachAngleAlongItself() {
        for (int angle = 0; angle < 4; angle++) {
            PlyStacker x = inclined(angle, 2);
            for (int[] row : WITHIN[angle]) Edges.due(ANGLES[angle], x.spared(row[0], row[1], row[2]), 3 * row[3]);
        }
    }

    static void p33_detOf0ByA02() {
        Edges.stays("one below", () -> Edges.leaning(4), x -> x.frail(0, 0, 0), 1);
        Edges.stays("it is", () -> Edges.leaning(5), x -> x.frail(0, 0, 0), 0);
        Edges.stays("one above", () -> Edges.leaning(6), x -> x.frail(0, 0, 0), 1);
    }

    static void p40_detOf0ByA02() {
        int[] due = {3, 1, 3};
        for (int k = 0; k < 3; k++) {
            int two = 4 + k;
            Edges.stays("two " + two, () -> Edges.told(8, "kind a one 5 two " + two
                + " three 0 four 0 limit 9;kind b one 9 two 2 three 0 four 0 limit 9;", "a rise", "b flat"),
                x -> x.spared(0, 0, 0), due[k]);
        }
    }

    static void p33_beyondLimitsByOne() {
        int[][] due = {{0, 3}, {99, 3}, {100, 3}, {101, 2}, {199, 2}, {200, 2}, {201, 1}, {299, 1}, {300, 1}, {301, 0},
            {302, 0}, {999, 0}};
        for (int[] row : due) {
            Edges.stays("by " + row[0], BoundaryLostTest::three, x -> x.frail(row[0], 0, 0), row[1]);
            Edges.stays("by -" + row[0], BoundaryLostTest::three, x -> x.frail(-row[0], 0, 0), row[1]);
        }
        Edges.stays("not strained along", BoundaryLostTest::three, x -> x.frail(0, 999, 999), 3);
    }

    static void p33_detOf0IsBeyond() {
        Edges.stays("no PLIES", Edges::empty, x -> x.frail(0, 0, 0), 0);
        Edges.stays("as it is", () -> Edges.slack(2), x -> x.frail(0, 0, 0), 0);
        Edges.stays("one below", () -> Edges.slack(1), x -> x.frail(0, 0, 0), 1);
        Edges.stays("one above", () -> Edges.slack(3), x -> x.frail(0, 0, 0), 3);
        Edges.stays("all LOST", () -> single(1), x -> x.frail(0, 0, 0), 1);
    }

    static void p33_loadsFrom999BelowTo999Above() {
        Edges.loads("frail", Edges::mirrored, (x, a, b, c) -> x.frail(a, b, c), -2);
        Edges.loads("frail", Edges::busy, (x, a, b, c) -> x.frail(a, b, c), -2);
        Edges.loads("frail", Edges::empty, (x, a, b, c) -> x.frail(a, b, c), -2);
        Edges.noPlate(x -> x.frail(0, 0, 0), -2);
    }

    static void p33_thoseLostAside() {
        // the cross one alone bears little; without the flat one it must bear all
        Edges.Maker maker = () -> Edges.told(2, Edges.AA + Edges.BB, "bb cross", "aa flat");
        Edges.stays("one", maker, x -> x.frail(0, 150, 0), 1);
        Edges.stays("that one", maker, x -> x.frailSet(0, 150, 0), 2);
    }

    static void p34_theLeastSetOfSoFew() {
        int[][] due = {{0, 7}, {100, 7}, {101, 3}, {200, 3}, {201, 1}, {300, 1}, {301, 0}, {999, 0}};
        for (int[] row : due) {
            Edges.stays("by " + row[0], BoundaryLostTest::three, x -> x.frailSet(row[0], 0, 0), row[1]);
            Edges.stays("by -" + row[0], BoundaryLostTest::three, x -> x.frailSet(-row[0], 0, 0), row[1]);
        }
        Edges.stays("a greater set of fewer", () -> Edges.slack(1), x -> x.frailSet(0, 0, 0), 1);
        Edges.stays("all of eight", Edges::full, x -> x.frailSet(0, 0, 0), 255);
    }

    static void p34_noneLost() {
        Edges.stays("no PLIES", Edges::empty, x -> x.frailSet(0, 0, 0), 0);
        Edges.stays("DET of 0", () -> Edges.slack(2), x -> x.frailSet(0, 0, 0), 0);
    }

    static void p34_loadsFrom999BelowTo999Above() {
        Edges.loads("frailSet", Edges::mirrored, (x, a, b, c) -> x.frailSet(a, b, c), -2);
        Edges.loads("frailSet", Edges::busy, (x, a, b, c) -> x.frailSet(a, b, c), -2);
        Edges.noPlate(x -> x.frailSet(0, 0, 0), -2);
    }

    /** Twice A at 0 0 is 2 2 4: without PLY 2 a load is borne as without PLIES 0 and 1. */
    private static PlyStacker uneasy() {
        return Edges.told(3, "kind s one 1 two 0 three 0 four 0 limit 100;kind b one 2 two 0 three 0 four 0 limit 100;",
            "s flat", "s flat", "b flat");
    }

    static void p33_theFewestNotTheLeastSet() {
        Edges.stays("at LIMITS", BoundaryLostTest::uneasy, x -> x.frail(200, 0, 0), 2);
        Edges.stays("beyond", BoundaryLostTest::uneasy, x -> x.frail(201, 0, 0), 1);
    }

    static void p34_theFewestNotTheLeastSet() {
        Edges.stays("at LIMITS", BoundaryLostTest::uneasy, x -> x.frailSet(200, 0, 0), 5);
        Edges.stays("beyond", BoundaryLostTest::uneasy, x -> x.frailSet(201, 0, 0), 4);
    }

    static void p33_flatOrNot() {
        Edges.stays("not FLAT", Edges::uneven, x -> x.frail(1, 1, 1), 4);
        Edges.stays("not FLAT", Edges::uneven, x -> x.frail(0, 358, 0), 1);
        Edges.stays("not FLAT", Edges::uneven, x -> x.frail(0, 359, 0), 0);
    }

    static void p35_besideTheAxisAndNotStraight() {
        // by a load of 1 along 0: rise 40 by 4192, flat 189 by 4192; along 1: 72 by 4192, 79 by 4192
        Edges.range("by the flat ones", () -> Edges.tilted(4, 3), (x, axis) -> x.carries(axis), -2, 0, 66, 159);
        Edges.range("by those that rise", () -> Edges.tilted(1, 99), (x, axis) -> x.carries(axis), -2, 0, 104, 58);
    }

    /** As three(), behind a KIND of which there are no PLIES and whose LIMIT is the least. */
    private static PlyStacker behindAnother() {
        return Edges.told(3, "kind z one 1 two 0 three 0 four 0 limit 1;kind s one 1 two 0 three 0 four 0 limit 100;",
            "s flat", "s flat", "s flat");
    }

    static void p33_aKindWithoutPlies() {
        Edges.stays("at LIMITS", BoundaryLostTest::behindAnother, x -> x.frail(300, 0, 0), 1);
        Edges.stays("beyond", BoundaryLostTest::behindAnother, x -> x.frail(301, 0, 0), 0);
    }

    static void p34_aKindWithoutPlies() {
        Edges.stays("two", BoundaryLostTest::behindAnother, x -> x.frailSet(200, 0, 0), 3);
        Edges.stays("one", BoundaryLostTest::behindAnother, x -> x.frailSet(201, 0, 0), 1);
    }

    static void p35_aKindWithoutPlies() {
        Edges.stays("at LIMITS", BoundaryLostTest::behindAnother, x -> x.carries(0), 300);
    }

    static void p40_aKindWithoutPlies() {
        Edges.stays("at LIMITS", BoundaryLostTest::behindAnother, x -> x.spared(200, 0, 0), 7);
        Edges.stays("beyond", BoundaryLostTest::behindAnother, x -> x.spared(201, 0, 0), 0);
    }

    // ---- 35 ----

    static void p35_loadsFrom0To999() {
        for (int limit : new int[] {1, 2, 998, 999}) {
            Edges.range("axis", () -> single(limit), (x, axis) -> x.carries(axis), -2, 0, 999, limit);
        }
        String limp = "kind a one 1 two 0 three 0 four 0 limit 1;kind b one 2 two 2 three 0 four 2 limit 999;";
        Edges.range("no load but 0", () -> Edges.told(2, limp, "a flat", "b cross"), (x, axis) -> x.carries(axis), -2, 0,
            0, 0);
        Edges.range("at LIMITS", BoundaryLostTest::three, (x, axis) -> x.carries(axis), -2, 0, 300, 999);
    }

    static void p35_thereIsNoSuchAxis() {
        Edges.range("axis", Edges::uneven, (x, axis) -> x.carries(axis), -2, 0, 999, 358);
        Edges.refusedOutside("axis", Edges::empty, (x, axis) -> x.carries(axis), -2, 0, 1);
    }

    static void p35_detOfAIsZero() {
        Edges.range("no PLIES", Edges::empty, (x, axis) -> x.carries(axis), -2, 0, -1, -1);
        Edges.range("it is", () -> Edges.slack(2), (x, axis) -> x.carries(axis), -2, 0, -1, -1);
        Edges.stays("one below", () -> Edges.slack(1), x -> x.carries(0), 4);
        Edges.stays("one above", () -> Edges.slack(3), x -> x.carries(0), 6);
    }

    static void p35_detOfAIsZeroByA02() {
        // half of STRAINS together is 1 by 18 and 1 by 22 by a load of 1, the LIMIT is 9
        Edges.stays("one below", () -> Edges.leaning(4), x -> x.carries(0), 162);
        Edges.stays("it is", () -> Edges.leaning(5), x -> x.carries(0), -1);
        Edges.stays("one above", () -> Edges.leaning(6), x -> x.carries(0), 198);
    }

    static void p35_alongOneAxisAlone() {
        // half of STRAINS 0 and 1 is the load by 200, and STRAIN 2 is none
        Edges.range("at LIMITS", () -> Edges.slanted(4), (x, axis) -> x.carries(axis), -2, 0, 800, 800);
        Edges.range("beyond 999", () -> Edges.slanted(5), (x, axis) -> x.carries(axis), -2, 0, 999, 999);
    }

    static void p35_withoutAPlate() {
        Edges.noPlate(x -> x.carries(0), -2);
        Edges.noPlate(x -> x.carries(1), -2);
    }

    // ---- 38 ----

    static void p38_thereIsNoSuchPly() {
        Edges.range("ply", Edges::uneven, (x, ply) -> x.lost(ply, 0), Edges.NO_SUCH, 0, 1160, 2872, 2936, 2056);
        Edges.range("ply", Edges::uneven, (x, ply) -> x.lost(ply, 1), Edges.NO_SUCH, 0, 86, 118, 134, 118);
        Edges.range("ply", Edges::uneven, (x, ply) -> x.lost(ply, 2), Edges.NO_SUCH, 0, 446, 356, 355, 444);
        Edges.refusedOutside("ply of none", Edges::empty, (x, ply) -> x.lost(ply, 0), Edges.NO_SUCH, 0, -1);
        Edges.refusedOutside("ply of eight", Edges::full, (x, ply) -> x.lost(ply, 0), Edges.NO_SUCH, 0, 7);
    }

    static void p38_thereIsNoSuchWhat() {
        Edges.range("what", Edges::uneven, (x, what) -> x.lost(0, what), Edges.NO_SUCH, 0, 1160, 86, 446);
        Edges.range("what", () -> single(1), (x, what) -> x.lost(0, what), Edges.NO_SUCH, 0, 0, 0, 0);
    }

    static void p38_withoutAPlate() {
        for (int what = 0; what < 3; what++) {
            int which = what;
            Edges.noPlate(x -> x.lost(0, which), Edges.NO_SUCH);
        }
    }

    static void p38_itIsThereAsAhead() {
        // the first of eight: the others stay as far as they were
        PlyStacker x = Edges.told(8, "kind s one 1 two 0 three 0 four 0 limit 100;", "s flat", "s flat", "s flat", "s flat",
            "s flat", "s flat", "s flat", "s flat");
        long[] thick = {148, 76, 28, 4, 4, 28, 76, 148};
        for (int k = 0; k < 8; k++) {
            Edges.due("D", x.lost(k, 0), 2 * (512 - thick[k]));
            Edges.due("A", x.lost(k, 1), 14);
            Edges.due("B: 2 at 0 0, 2 at 1 1, 1 at 2 2", x.lost(k, 2), 5 * Math.abs(2 * k - 7));
        }
        Edges.due("PLIES", x.count(2), 8);
    }

    // ---- 39 ----

    static void p39_thereIsNoSuchWhat() {
        Edges.range("what", Edges::uneven, (x, what) -> x.worst(what), -2, 0, 0, 0, 0);
        Edges.range("what", Edges::busy, (x, what) -> x.worst(what), -2, 0, 3, 2, 0);
    }

    static void p39_withoutPliesAndWithoutAPlate() {
        Edges.range("no PLIES", Edges::empty, (x, what) -> x.worst(what), -2, 0, -1, -1, -1);
        Edges.range("a PLY", () -> single(1), (x, what) -> x.worst(what), -2, 0, 0, 0, 0);
        Edges.noPlate(x -> x.worst(0), -2);
        Edges.noPlate(x -> x.worst(2), -2);
    }

    static void p39_theFirstOfSeveral() {
        Edges.range("both outer ones", BoundaryLostTest::three, (x, what) -> x.worst(what), -2, 0, 0, 0, 0);
        Edges.stays("both inner ones", () -> Edges.told(2, Edges.AA, "aa cross", "aa flat", "aa flat", "aa cross"),
            x -> x.worst(1), 1);
        Edges.stays("the last one alone", () -> Edges.told(2, Edges.AA, "aa cross", "aa cross", "aa flat"),
            x -> x.worst(1), 2);
    }

    // ---- 40 ----

    static void p40_withinLimitsByOne() {
        int[][] due = {{0, 7}, {199, 7}, {200, 7}, {201, 0}, {202, 0}, {999, 0}};
        for (int[] row : due) {
            Edges.stays("by " + row[0], BoundaryLostTest::three, x -> x.spared(row[0], 0, 0), row[1]);
            Edges.stays("by -" + row[0], BoundaryLostTest::three, x -> x.spared(-row[0], 0, 0), row[1]);
        }
    }

    static void p40_detOf0IsNot() {
        Edges.stays("no PLIES", Edges::empty, x -> x.spared(0, 0, 0), 0);
        Edges.stays("a PLY", () -> single(999), x -> x.spared(0, 0, 0), 0);
        // without one of the outer ones twice A at 2 2 is one - 1, without the inner one -2
        Edges.stays("by an outer one", () -> Edges.slack(1), x -> x.spared(0, 0, 0), 2);
        Edges.stays("by none", () -> Edges.slack(2), x -> x.spared(0, 0, 0), 7);
        Edges.stays("by none", () -> Edges.slack(3), x -> x.spared(0, 0, 0), 7);
    }

    static void p40_theLostOneAside() {
        Edges.stays("the one that bears little", () -> Edges.told(2, Edges.AA + Edges.BB, "aa flat", "bb cross"),
            x -> x.spared(0, 100, 0), 2);
    }

    static void p40_loadsFrom999BelowTo999Above() {
        Edges.loads("spared", Edges::mirrored, (x, a, b, c) -> x.spared(a, b, c), -2);
        Edges.loads("spared", Edges::busy, (x, a, b, c) -> x.spared(a, b, c), -2);
        Edges.loads("spared", Edges::empty, (x, a, b, c) -> x.spared(a, b, c), -2);
        Edges.noPlate(x -> x.spared(0, 0, 0), -2);
    }

    public static void main(String[] args) {
        Edges.run(BoundaryLostTest.class, 33, 34, 35, 38, 39, 40);
    }
}
