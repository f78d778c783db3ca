/** Boundaries of promises 19 to 26 and 41: ORDERS (Terms V). */
public final class BoundaryOrdersTest {
    private static final int[][] ROWS = {{0, 0, 3, 3}, {0, 3, 0, 3}, {0, 3, 3, 0}, {3, 0, 0, 3}, {3, 0, 3, 0}, {3, 3, 0, 0}};

    private static PlyStacker eightTypes() {
        return Edges.told(8, Edges.AA + Edges.BB, "aa flat", "aa rise", "aa fall", "aa cross", "bb flat", "bb rise",
            "bb fall", "bb cross");
    }

    /** Two PLIES of one ANGLE, which only ROOM 2 lets lie on one another. */
    private static PlyStacker pair(int room) {
        return Edges.told(room, Edges.AA + Edges.BB, "aa flat", "bb flat");
    }

    // ---- 19 ----

    static void p19_masksFrom0To7() {
        Edges.range("orders", Edges::mirrored, (x, mask) -> x.orders(mask), -2, 0, 6, 2, 2, 2, 6, 2, 2, 2);
        Edges.range("orders", Edges::uneven, (x, mask) -> x.orders(mask), -2, 0, 24, 0, 0, 0, 8, 0, 0, 0);
        Edges.refusedOutside("orders", Edges::busy, (x, mask) -> x.orders(mask), -2, 0, 7);
    }

    static void p19_withoutAPlate() {
        Edges.noPlate(x -> x.orders(0));
        Edges.noPlate(x -> x.orders(8));
    }

    static void p19_withoutPliesAndWithOne() {
        Edges.range("no PLIES", Edges::empty, (x, mask) -> x.orders(mask), -2, 0, 1, 1, 1, 1, 1, 1, 1, 1);
        Edges.range("no KINDS", () -> Edges.told(1, ""), (x, mask) -> x.orders(mask), -2, 0, 1, 1, 1, 1, 1, 1, 1, 1);
        Edges.range("a PLY", () -> Edges.flats(1, 1), (x, mask) -> x.orders(mask), -2, 0, 1, 1, 1, 1, 1, 1, 1, 1);
        Edges.range("one that rises", () -> Edges.told(1, Edges.AA, "aa rise"), (x, mask) -> x.orders(mask), -2, 0,
            1, 1, 1, 1, 0, 0, 0, 0);
    }

    static void p19_noRunLongerThanRoom() {
        for (int n = 1; n <= 8; n++) {
            for (int room = 1; room <= 8; room++) {
                Edges.due(n + " by ROOM " + room, Edges.flats(n, room).orders(0), n <= room ? 1 : 0);
            }
        }
        Edges.stays("by ANGLE, not by TYPE", () -> pair(1), x -> x.orders(0), 0);
        Edges.stays("by ANGLE, not by TYPE", () -> pair(2), x -> x.orders(0), 2);
        Edges.stays("by ANGLE, not by TYPE", () -> pair(3), x -> x.orders(0), 2);
        PlyStacker x = Edges.mirrored();
        int[] due = {2, 6, 6};
        for (int room = 1; room <= 3; room++) {
            x.room(room);
            Edges.due("ROOM " + room, x.orders(0), due[room - 1]);
        }
    }

    static void p19_eachRowOnceAndAtMost40320() {
        PlyStacker x = eightTypes();
        Edges.due("eight TYPES", x.orders(0), 40320);
        x.turn(7, 0);
        Edges.due("two of one", x.orders(0), 20160);
        x.turn(6, 0);
        Edges.due("three of one", x.orders(0), 6720);
        Edges.due("one TYPE", Edges.flats(8, 8).orders(0), 1);
        Edges.due("one TYPE", Edges.flats(8, 7).orders(0), 0);
    }

    static void p19_flatButNotMirrored() {
        Edges.range("two KINDS alike", () -> Edges.told(8, Edges.LIKE, "a flat", "b flat"), (x, mask) -> x.orders(mask), -2,
            0, 2, 0, 2, 0, 2, 0, 2, 0);
        for (int where = 0; where < 6; where++) {
            Edges.due("bowed at one place", Edges.bowed(where).orders(2), 0);
            Edges.due("bowed at one place", Edges.bowed(where).orders(0), 2);
        }
    }

    static void p19_mirroredByEachPair() {
        Edges.stays("one pair of two", () -> Edges.told(8, Edges.AA, "aa flat", "aa rise", "aa cross", "aa flat"),
            x -> x.orders(1), 0);
        Edges.stays("two pairs", () -> Edges.told(8, Edges.AA, "aa flat", "aa rise", "aa rise", "aa flat"),
            x -> x.orders(1), 2);
        Edges.stays("two pairs and one", () -> Edges.told(8, Edges.AA, "aa flat", "aa rise", "aa cross", "aa rise", "aa flat"),
            x -> x.orders(1), 2);
    }

    static void p19_straightInPlaneAndInBending() {
        Edges.due("A always is, D with one of each outside", Edges.skew(3, 3).orders(4), 4);
        Edges.due("D can be, A never is", Edges.skew(3, 21).orders(4), 0);
        Edges.due("all", Edges.skew(0, 0).orders(4), 6);
    }

    static void p19_otherNumbersOfTheSameTypes() {
        PlyStacker x = Edges.told(8, Edges.AA + Edges.BB, "aa flat", "bb flat");
        x.image(0);
        Edges.due("unlike KINDS", x.orders(2), 0);
        Feeder.feed(x, "plate room 8;" + Edges.LIKE + "ply a flat;ply b flat;");
        x.plate();
        Edges.due("like KINDS", x.orders(2), 2);
        x.back(0);
        Edges.due("unlike KINDS", x.orders(2), 0);
    }

    static void p19_otherPliesOfOneType() {
        PlyStacker x = Edges.flats(3, 2);
        Edges.due("three", x.orders(0), 0);
        x.drop(0);
        Edges.due("two", x.orders(0), 1);
        x.undo();
        Edges.due("three", x.orders(0), 0);
    }

    static void p19_asThePlateIsThen() {
        PlyStacker x = Edges.mirrored();
        Edges.due("four", x.orders(0), 6);
        x.drop(0);
        Edges.due("three", x.orders(0), 3);
        x.turn(0, 0);
        Edges.due("turned", x.orders(0), 3);
        x.anew();
        Edges.due("taken back", x.orders(0), 6);
        x.image(0);
        x.keep(1);
        Edges.due("one", x.orders(0), 1);
        x.back(0);
        Edges.due("brought back", x.orders(0), 6);
        x.plate();
        Edges.due("no PLATE", x.orders(0), -2);
        x.back(0);
        Edges.due("brought back", x.orders(0), 6);
    }

    // ---- 20 ----

    static void p20_notSoManyAndBelow0() {
        for (int i = 0; i < 4; i++) {
            int at = i;
            for (int k = 0; k < 6; k++) {
                int which = k;
                Edges.stays("order", Edges::mirrored, x -> x.order(0, which, at), ROWS[k][i]);
            }
            for (int k : new int[] {6, 7, 65536, Edges.MAX}) {
                Edges.stays("not so many", Edges::mirrored, x -> x.order(0, k, at), -1);
            }
            for (int k : new int[] {-1, -2, Edges.MIN}) {
                Edges.stays("below 0", Edges::mirrored, x -> x.order(0, k, at), -2);
                Edges.stays("below 0", Edges::busy, x -> x.order(1, k, at), -2);
            }
        }
        Edges.stays("the last MIRRORED", Edges::mirrored, x -> x.order(1, 1, 0), 3);
        Edges.stays("not so many", Edges::mirrored, x -> x.order(1, 2, 0), -1);
        Edges.stays("none at all", Edges::busy, x -> x.order(1, 0, 0), -1);
    }

    static void p20_thereIsNoSuchI() {
        Edges.range("i", Edges::mirrored, (x, i) -> x.order(0, 1, i), -2, 0, 0, 3, 0, 3);
        Edges.refusedOutside("i", Edges::mirrored, (x, i) -> x.order(0, 6, i), -2, 0, 3);
        Edges.refusedOutside("i", Edges::empty, (x, i) -> x.order(0, 0, i), -2, 0, -1);
        Edges.range("i of eight", () -> Edges.flats(8, 8), (x, i) -> x.order(7, 0, i), -2, 0, 0, 0, 0, 0, 0, 0, 0, 0);
    }

    static void p20_masksAndNoPlate() {
        Edges.masks("order", (x, mask) -> x.count(2) == 0 ? x.orders(mask) : x.order(mask, 0, 0));
        Edges.noPlate(x -> x.order(0, 0, 0));
    }

    static void p20_theFirstAndTheLastOf40320() {
        PlyStacker x = eightTypes();
        for (int i = 0; i < 8; i++) {
            Edges.due("the first", x.order(0, 0, i), i);
            Edges.due("the last", x.order(0, 40319, i), 7 - i);
            Edges.due("one behind", x.order(0, 40320, i), -1);
        }
        Edges.due("the second", x.order(0, 1, 6), 7);
        Edges.due("the last but one", x.order(0, 40318, 6), 0);
    }

    static void p20_theHighestTypesOnTop() {
        PlyStacker x = Edges.told(8, Edges.AA + Edges.BB + Edges.CC, "cc cross", "cc cross", "cc cross", "aa flat");
        for (int k = 0; k < 4; k++) {
            for (int i = 0; i < 4; i++) Edges.due("order(0, " + k + ", " + i + ")", x.order(0, k, i), i == k ? 0 : 11);
        }
    }

    // ---- 21 ----

    static void p21_noneOfThemAndEachOfThem() {
        for (int k = 0; k < 6; k++) {
            int which = k;
            Edges.Maker maker = () -> {
                PlyStacker x = Edges.mirrored();
                x.become(0, which);
                return x;
            };
            Edges.stays("rank(0)", maker, x -> x.rank(0), k);
            Edges.stays("rank(1)", maker, x -> x.rank(1), k == 2 ? 0 : k == 3 ? 1 : -1);
        }
        Edges.stays("a RUN at ROOM", () -> Edges.flats(3, 3), x -> x.rank(0), 0);
        Edges.stays("a RUN too long", () -> Edges.flats(3, 2), x -> x.rank(0), -1);
        Edges.stays("the last of all", () -> {
            PlyStacker x = eightTypes();
            x.become(0, 40319);
            return x;
        }, x -> x.rank(0), 40319);
    }

    static void p21_masksAndNoPlate() {
        Edges.range("rank", Edges::mirrored, (x, mask) -> x.rank(mask), -2, 0, 2, 0, 0, 0, 2, 0, 0, 0);
        Edges.range("no PLIES", Edges::empty, (x, mask) -> x.rank(mask), -2, 0, 0, 0, 0, 0, 0, 0, 0, 0);
        Edges.refusedOutside("rank", Edges::busy, (x, mask) -> x.rank(mask), -2, 0, 7);
        Edges.noPlate(x -> x.rank(0));
    }

    // ---- 22, 23 ----

    static void p22_thereIsNoSuchWhat() {
        Edges.range("what", Edges::uneven, (x, what) -> x.best(0, what), -2, 0, 1, 7, 7, 0);
        Edges.range("none", Edges::uneven, (x, what) -> x.best(1, what), -2, 0, -1, -1, -1, -1);
        Edges.range("no PLIES", Edges::empty, (x, what) -> x.best(7, what), -2, 0, 0, 0, 0, 0);
        Edges.refusedOutside("what", Edges::busy, (x, what) -> x.best(0, what), -2, 0, 3);
    }

    static void p22_masksAndNoPlate() {
        Edges.masks("best", (x, mask) -> x.best(mask, 0));
        Edges.masks("best", (x, mask) -> x.best(mask, 3));
        Edges.noPlate(x -> x.best(0, 0));
        Edges.noPlate(x -> x.best(0, 3));
    }

    static void p22_theFirstOfSeveral() {
        Edges.stays("D at 2 2 is the same for all", Edges::mirrored, x -> x.best(0, 2), 0);
        Edges.stays("flat outside", Edges::mirrored, x -> x.best(0, 0), 2);
        Edges.stays("cross outside", Edges::mirrored, x -> x.best(0, 1), 3);
        Edges.stays("no likes() by two", Edges::mirrored, x -> x.best(0, 3), 1);
        Edges.stays("one of likes() by two", Edges::mirrored, x -> x.best(1, 3), 0);
    }

    static void p22_noneAndOne() {
        for (int what = 0; what < 4; what++) {
            int which = what;
            Edges.stays("a RUN too long", () -> Edges.flats(3, 2), x -> x.best(0, which), -1);
            Edges.stays("a RUN at ROOM", () -> Edges.flats(3, 3), x -> x.best(0, which), 0);
        }
    }

    static void p22_likesByAnglesNotByTypes() {
        // 0 4 5 has two flat ones on one another, 0 5 4 has not
        Edges.stays("the second", () -> Edges.told(8, Edges.AA + Edges.BB, "aa flat", "bb flat", "bb rise"),
            x -> x.best(0, 3), 1);
    }

    static void p23_likesByAnglesNotByTypes() {
        Edges.stays("one", () -> Edges.told(8, Edges.AA + Edges.BB, "aa flat", "bb flat"), x -> x.bestBy(0, 3), 1);
        Edges.stays("none", () -> Edges.told(8, Edges.AA + Edges.BB, "aa flat", "bb flat", "bb rise"), x -> x.bestBy(0, 3), 0);
    }

    static void p23_thereIsNoSuchWhat() {
        Edges.range("what", Edges::uneven, (x, what) -> x.bestBy(0, what), -2, 0, 3008, 2080, 1228, 0);
        Edges.range("none", Edges::uneven, (x, what) -> x.bestBy(1, what), -2, 0, -1, -1, -1, -1);
        Edges.range("no PLIES", Edges::empty, (x, what) -> x.bestBy(7, what), -2, 0, 0, 0, 0, 0);
        Edges.refusedOutside("what", Edges::busy, (x, what) -> x.bestBy(0, what), -2, 0, 3);
    }

    static void p23_masksAndNoPlate() {
        Edges.masks("bestBy", (x, mask) -> x.bestBy(mask, 0));
        Edges.masks("bestBy", (x, mask) -> x.bestBy(mask, 3));
        Edges.noPlate(x -> x.bestBy(0, 0));
        Edges.noPlate(x -> x.bestBy(0, 3));
    }

    static void p23_noneAndOne() {
        // THICK of three: 13 1 13; at flat 66 26 9
        long[] due = {27 * 66, 27 * 26, 27 * 9, 2};
        for (int what = 0; what < 4; what++) {
            int which = what;
            Edges.stays("a RUN too long", () -> Edges.flats(3, 2), x -> x.bestBy(0, which), -1);
            Edges.stays("a RUN at ROOM", () -> Edges.flats(3, 3), x -> x.bestBy(0, which), due[which]);
        }
        Edges.stays("below 0", () -> Edges.told(1, "kind a one 1 two 0 three 9 four 0 limit 1;", "a flat"),
            x -> x.bestBy(0, 2), -17);
        Edges.stays("seven likes()", () -> Edges.flats(8, 8), x -> x.bestBy(0, 3), 7);
    }

    // ---- 24, 25 ----

    static void p24_masksAndNoPlate() {
        Edges.range("nearest", Edges::mirrored, (x, mask) -> x.nearest(mask), -2, 0, 0, 0, 0, 0, 0, 0, 0, 0);
        Edges.range("no PLIES", Edges::empty, (x, mask) -> x.nearest(mask), -2, 0, 0, 0, 0, 0, 0, 0, 0, 0);
        Edges.refusedOutside("nearest", Edges::busy, (x, mask) -> x.nearest(mask), -2, 0, 7);
        Edges.noPlate(x -> x.nearest(0));
    }

    static void p24_noneAndItself() {
        Edges.stays("a RUN too long", () -> Edges.flats(3, 2), x -> x.nearest(0), -1);
        Edges.stays("a RUN at ROOM", () -> Edges.flats(3, 3), x -> x.nearest(0), 0);
        Edges.stays("none is MIRRORED", Edges::busy, x -> x.nearest(1), -1);
    }

    static void p24_twoAtLeastAndMore() {
        Edges.stays("two", () -> Edges.told(1, Edges.AA, "aa flat", "aa flat", "aa rise"), x -> x.nearest(0), 2);
        Edges.stays("two of four", () -> Edges.told(1, Edges.AA, "aa flat", "aa flat", "aa rise", "aa rise"),
            x -> x.nearest(0), 2);
        Edges.stays("three of five", () -> Edges.told(8, Edges.AA, "aa flat", "aa flat", "aa rise", "aa rise", "aa fall"),
            x -> x.nearest(1), 3);
        Edges.stays("four of five",
            () -> Edges.told(1, Edges.AA, "aa rise", "aa flat", "aa flat", "aa flat", "aa rise"), x -> x.nearest(0), 4);
    }

    /** A RUN of two within; the FLAT ones without such a RUN, four of them, have another TYPE at each place. */
    private static PlyStacker farthest() {
        return Edges.told(1, "kind b one 3 two 0 three 2 four 0 limit 1;kind c one 6 two 2 three 0 four 2 limit 1;",
            "b rise", "c flat", "b fall", "c flat", "c flat", "b fall", "c flat", "b rise");
    }

    static void p24_allEight() {
        Edges.stays("FLAT ones", BoundaryOrdersTest::farthest, x -> x.orders(2), 4);
        Edges.stays("all eight", BoundaryOrdersTest::farthest, x -> x.nearest(2), 8);
    }

    static void p25_allEight() {
        Edges.stays("the first of four", BoundaryOrdersTest::farthest, x -> x.nearestAt(2), 0);
    }

    static void p25_masksAndNoPlate() {
        Edges.range("nearestAt", Edges::mirrored, (x, mask) -> x.nearestAt(mask), -2, 0, 2, 0, 0, 0, 2, 0, 0, 0);
        Edges.range("no PLIES", Edges::empty, (x, mask) -> x.nearestAt(mask), -2, 0, 0, 0, 0, 0, 0, 0, 0, 0);
        Edges.refusedOutside("nearestAt", Edges::busy, (x, mask) -> x.nearestAt(mask), -2, 0, 7);
        Edges.noPlate(x -> x.nearestAt(0));
    }

    static void p25_noneAndTheFirstOfSeveral() {
        Edges.stays("a RUN too long", () -> Edges.flats(3, 2), x -> x.nearestAt(0), -1);
        Edges.stays("a RUN at ROOM", () -> Edges.flats(3, 3), x -> x.nearestAt(0), 0);
        int[] due = {0, 0, 0, 1, 0, 0};
        for (int k = 0; k < 6; k++) {
            int which = k;
            Edges.stays("by MIRRORED ones", () -> {
                PlyStacker x = Edges.mirrored();
                x.become(0, which);
                return x;
            }, x -> x.nearestAt(1), due[k]);
        }
    }

    // ---- 26 ----

    static void p26_masksAndNoPlate() {
        Edges.range("unlike", Edges::mirrored, (x, mask) -> x.unlike(mask), -2, 0, 3, 2, 2, 2, 3, 2, 2, 2);
        Edges.range("no PLIES", Edges::empty, (x, mask) -> x.unlike(mask), -2, 0, 1, 1, 1, 1, 1, 1, 1, 1);
        Edges.refusedOutside("unlike", Edges::busy, (x, mask) -> x.unlike(mask), -2, 0, 7);
        Edges.noPlate(x -> x.unlike(0));
    }

    static void p26_noneAndOne() {
        Edges.stays("none", () -> Edges.flats(3, 2), x -> x.unlike(0), 0);
        Edges.stays("one", () -> Edges.flats(3, 3), x -> x.unlike(0), 1);
        Edges.stays("two that bend alike", () -> Edges.told(8, Edges.LIKE, "a flat", "b flat"), x -> x.unlike(0), 1);
        Edges.stays("two ORDERS", () -> Edges.told(8, Edges.LIKE, "a flat", "b flat"), x -> x.orders(0), 2);
    }

    /** The two KINDS' Q at flat is unlike at 0 0 alone, at 1 1 alone, at 2 2 alone, and nowhere. */
    static void p26_unlikeAtOnePlaceAlone() {
        String a = "kind a one 10 two 3 three 1 four 1 limit 1;";
        String[] kinds = {a + "kind b one 12 two 5 three 1 four 3 limit 1;", a + "kind b one 12 two 1 three 1 four 3 limit 1;",
            a + "kind b one 10 two 3 three 1 four 4 limit 1;"};
        for (String told : kinds) {
            Edges.stays("at one place", () -> Edges.told(8, told, "a flat", "b flat", "b flat"), x -> x.unlike(0), 2);
        }
        Edges.stays("nowhere", () -> Edges.told(8, a + a.replace("kind a", "kind b"), "a flat", "b flat", "b flat"),
            x -> x.unlike(0), 1);
    }

    static void p26_ofAll40320() {
        PlyStacker x = eightTypes();
        Edges.due("eight TYPES", x.unlike(0), 458);
        Edges.due("asked again", x.unlike(0), 458);
        x.keep(1);
        Edges.due("one", x.unlike(0), 1);
    }

    // ---- 41 ----

    static void p41_notSoManyAndBelow0() {
        long[] due = {2, 1, 0, 2, 1, 2};
        for (int k = 0; k < 6; k++) {
            int which = k;
            Edges.stays("exchanges", Edges::mirrored, x -> x.exchanges(0, which), due[k]);
        }
        for (int k : new int[] {6, 7, 65536, Edges.MAX}) {
            Edges.stays("not so many", Edges::mirrored, x -> x.exchanges(0, k), -1);
        }
        for (int k : new int[] {-1, -2, Edges.MIN}) {
            Edges.stays("below 0", Edges::mirrored, x -> x.exchanges(0, k), -2);
            Edges.stays("below 0", Edges::busy, x -> x.exchanges(1, k), -2);
        }
        Edges.stays("the last MIRRORED", Edges::mirrored, x -> x.exchanges(1, 1), 2);
        Edges.stays("not so many", Edges::mirrored, x -> x.exchanges(1, 2), -1);
        Edges.stays("none at all", Edges::busy, x -> x.exchanges(1, 0), -1);
        Edges.stays("no PLIES", Edges::empty, x -> x.exchanges(7, 0), 0);
        Edges.stays("no PLIES", Edges::empty, x -> x.exchanges(7, 1), -1);
    }

    static void p41_masksAndNoPlate() {
        Edges.masks("exchanges", (x, mask) -> x.exchanges(mask, 0));
        Edges.noPlate(x -> x.exchanges(0, 0));
    }

    static void p41_fromNoneTo28() {
        PlyStacker x = eightTypes();
        Edges.due("itself", x.exchanges(0, 0), 0);
        Edges.due("the next", x.exchanges(0, 1), 1);
        Edges.due("turned round", x.exchanges(0, 40319), 28);
        Edges.due("turned round but two", x.exchanges(0, 40318), 27);
        Edges.stays("from a RUN too long", () -> Edges.told(1, Edges.AA, "aa flat", "aa flat", "aa rise"),
            y -> y.exchanges(0, 0), 1);
    }

    public static void main(String[] args) {
        Edges.run(BoundaryOrdersTest.class, 19, 20, 21, 22, 23, 24, 25, 26, 41);
    }
}
