/** Boundaries of promises 27 to 32: THINNER plates and ways to them (Terms VI). */
public final class BoundaryThinTest {
    /** STRAIGHT and FLAT: rise and fall as Thue and Morse have them. */
    private static PlyStacker woven() {
        return Edges.told(8, Edges.AA, "aa rise", "aa fall", "aa fall", "aa rise", "aa fall", "aa rise", "aa rise", "aa fall");
    }

    private static void strides(String what, Edges.Asker asker, long... wants) {
        Edges.range(what, Edges::mirrored, asker, -2, 1, wants);
        Edges.refusedOutside(what, Edges::busy, asker, -2, 1, 3);
        Edges.refusedOutside(what, Edges::empty, asker, -2, 1, 3);
    }

    // ---- 27 ----

    static void p27_setsOfOneToAllPlies() {
        Edges.range("n", Edges::mirrored, (x, n) -> x.thinner(n, 1), -2, 1, 4, 2, 2, 1);
        Edges.range("n", Edges::mirrored, (x, n) -> x.thinner(n, 0), -2, 1, 4, 6, 4, 1);
        Edges.range("n of eight", Edges::full, (x, n) -> x.thinner(n, 0), -2, 1, 8, 28, 56, 70, 56, 28, 8, 1);
        Edges.range("n of one", () -> Edges.flats(1, 1), (x, n) -> x.thinner(n, 7), -2, 1, 1);
        Edges.refusedOutside("n of none", Edges::empty, (x, n) -> x.thinner(n, 0), -2, 1, 0);
        Edges.refusedOutside("n", Edges::busy, (x, n) -> x.thinner(n, 0), -2, 1, 4);
    }

    static void p27_noRunLongerThanRoom() {
        Edges.range("ROOM 1", () -> Edges.flats(4, 1), (x, n) -> x.thinner(n, 0), -2, 1, 4, 0, 0, 0);
        Edges.range("ROOM 2", () -> Edges.flats(4, 2), (x, n) -> x.thinner(n, 0), -2, 1, 4, 6, 0, 0);
        Edges.range("ROOM 3", () -> Edges.flats(4, 3), (x, n) -> x.thinner(n, 0), -2, 1, 4, 6, 4, 0);
        Edges.range("ROOM 4", () -> Edges.flats(4, 4), (x, n) -> x.thinner(n, 0), -2, 1, 4, 6, 4, 1);
        Edges.range("RUNS that grow", () -> Edges.told(1, Edges.AA, "aa flat", "aa rise", "aa flat"),
            (x, n) -> x.thinner(n, 0), -2, 1, 3, 2, 1);
    }

    static void p27_asFarAsTheSetAloneHasThem() {
        // LOST, the others would stay where they are, and one PLY that is not in the middle would bow the plate
        Edges.range("FLAT", () -> Edges.flats(4, 4), (x, n) -> x.thinner(n, 2), -2, 1, 4, 6, 4, 1);
        Edges.range("FLAT", Edges::mirrored, (x, n) -> x.thinner(n, 2), -2, 1, 4, 2, 2, 1);
        Edges.range("FLAT", BoundaryThinTest::woven, (x, n) -> x.thinner(n, 2), -2, 1, 8, 12, 28, 16, 14, 0, 2, 1);
        Edges.range("STRAIGHT", BoundaryThinTest::woven, (x, n) -> x.thinner(n, 4), -2, 1, 0, 16, 0, 22, 0, 10, 0, 1);
    }

    static void p27_mirroredByTypesAndByEachPair() {
        Edges.range("two KINDS", () -> Edges.told(8, Edges.AA + Edges.BB, "aa flat", "bb flat"), (x, n) -> x.thinner(n, 1), -2,
            1, 2, 0);
        Edges.range("the outer pair alone", () -> Edges.told(8, Edges.AA, "aa flat", "aa rise", "aa cross", "aa flat"),
            (x, n) -> x.thinner(n, 1), -2, 1, 4, 1, 2, 0);
        Edges.range("the inner pair alone", () -> Edges.told(8, Edges.AA, "aa flat", "aa rise", "aa rise", "aa cross"),
            (x, n) -> x.thinner(n, 1), -2, 1, 4, 1, 0, 0);
    }

    static void p27_flatAtAllPlaces() {
        for (int k = 0; k < 6; k++) {
            int where = k;
            Edges.range("bowed at one place", () -> Edges.bowed(where), (x, n) -> x.thinner(n, 2), -2, 1, 2, 0);
        }
        Edges.range("not bowed", () -> Edges.told(8, Edges.LIKE, "a rise", "b rise"), (x, n) -> x.thinner(n, 2), -2, 1, 2, 1);
    }

    static void p27_straightInPlaneAndInBending() {
        Edges.stays("A alone", () -> Edges.skew(3, 3), x -> x.thinner(4, 4), 0);
        Edges.stays("D alone", () -> Edges.skew(3, 21), x -> x.thinner(4, 4), 0);
        Edges.stays("both", () -> Edges.skew(0, 0), x -> x.thinner(4, 4), 1);
    }

    static void p27_runsByAnglesNotByTypes() {
        Edges.range("ROOM 1", () -> Edges.told(1, Edges.AA + Edges.BB, "aa flat", "bb flat"), (x, n) -> x.thinner(n, 0), -2, 1,
            2, 0);
        Edges.range("ROOM 2", () -> Edges.told(2, Edges.AA + Edges.BB, "aa flat", "bb flat"), (x, n) -> x.thinner(n, 0), -2, 1,
            2, 1);
    }

    static void p27_masksAndNoPlate() {
        Edges.range("mask", Edges::mirrored, (x, mask) -> x.thinner(2, mask), -2, 0, 6, 2, 2, 2, 6, 2, 2, 2);
        Edges.masks("thinner", (x, mask) -> x.thinner(1, mask));
        Edges.noPlate(x -> x.thinner(1, 0));
        Edges.noPlate(x -> x.thinner(0, 0));
    }

    // ---- 28 ----

    static void p28_notSoManyAndBelow0() {
        int[][] sets = {{1, 2, 4, 8}, {6, 9}, {11, 13}, {15}};
        for (int n = 1; n <= 4; n++) {
            int many = n;
            for (int k = 0; k < sets[n - 1].length; k++) {
                int which = k;
                Edges.stays("thin", Edges::mirrored, x -> x.thin(many, 1, which), sets[n - 1][k]);
            }
            for (int k : new int[] {sets[n - 1].length, sets[n - 1].length + 1, 65536, Edges.MAX}) {
                Edges.stays("not so many", Edges::mirrored, x -> x.thin(many, 1, k), -1);
            }
            for (int k : new int[] {-1, -2, Edges.MIN}) {
                Edges.stays("below 0", Edges::mirrored, x -> x.thin(many, 1, k), -2);
                Edges.stays("below 0", Edges::busy, x -> x.thin(many, 1, k), -2);
            }
        }
        Edges.stays("none at all", () -> Edges.flats(4, 2), x -> x.thin(3, 0, 0), -1);
    }

    static void p28_setsOfOneToAllPlies() {
        Edges.range("n", Edges::mirrored, (x, n) -> x.thin(n, 0, 0), -2, 1, 1, 3, 7, 15);
        Edges.range("n of eight", Edges::full, (x, n) -> x.thin(n, 0, 0), -2, 1, 1, 3, 7, 15, 31, 63, 127, 255);
        Edges.stays("the last of eight", Edges::full, x -> x.thin(4, 0, 69), 240);
        Edges.stays("one behind", Edges::full, x -> x.thin(4, 0, 70), -1);
        Edges.refusedOutside("n of none", Edges::empty, (x, n) -> x.thin(n, 0, 0), -2, 1, 0);
        Edges.refusedOutside("n", Edges::busy, (x, n) -> x.thin(n, 0, 0), -2, 1, 4);
    }

    static void p28_asFarAsTheSetAloneHasThem() {
        for (int k = 0; k < 4; k++) {
            int which = k;
            Edges.stays("FLAT", () -> Edges.flats(4, 4), x -> x.thin(1, 2, which), 1 << k);
        }
        int[] pairs = {3, 5, 6, 9, 10, 12};
        for (int k = 0; k < 6; k++) {
            int which = k;
            Edges.stays("FLAT", () -> Edges.flats(4, 4), x -> x.thin(2, 2, which), pairs[k]);
        }
        Edges.stays("not so many", () -> Edges.flats(4, 4), x -> x.thin(2, 2, 6), -1);
    }

    static void p28_masksAndNoPlate() {
        Edges.masks("thin", (x, mask) -> x.thin(1, mask, 0));
        Edges.noPlate(x -> x.thin(1, 0, 0));
    }

    // ---- 29 ----

    static void p29_oneToThreeDropped() {
        strides("d", (x, d) -> x.blend(1, d), 1, 1, 1);
        Edges.range("by two at least", BoundaryThinTest::woven, (x, d) -> x.blend(4, d), -2, 1, 8, 2, 2);
        Edges.range("no PLIES", Edges::empty, (x, d) -> x.blend(7, d), -2, 1, 0, 0, 0);
    }

    static void p29_itIsNotSoItself() {
        for (int d = 1; d <= 3; d++) {
            int most = d;
            Edges.stays("not MIRRORED", Edges::busy, x -> x.blend(1, most), -1);
            Edges.stays("a RUN too long", () -> Edges.flats(3, 2), x -> x.blend(0, most), -1);
            Edges.stays("a RUN at ROOM", () -> Edges.flats(3, 3), x -> x.blend(0, most), 1);
        }
    }

    static void p29_onePlyAtLeastStays() {
        for (int n = 1; n <= 8; n++) {
            PlyStacker x = Edges.flats(n, 8);
            for (int d = 1; d <= 3; d++) Edges.due("of " + n, x.blend(7, d), 1);
        }
        Edges.stays("0 if there are none", Edges::empty, x -> x.blend(7, 1), 0);
    }

    static void p29_eachPlateOnTheWay() {
        Edges.Maker rising = () -> Edges.told(1, Edges.AA, "aa rise", "aa flat", "aa fall", "aa flat", "aa rise");
        // dropped one by one a RUN comes up within: only from the ends it goes on
        Edges.range("MIRRORED", rising, (x, d) -> x.blend(1, d), -2, 1, 5, 1, 1);
        Edges.range("any", rising, (x, d) -> x.blend(0, d), -2, 1, 1, 1, 1);
    }

    static void p29_bitsTogether() {
        // FLAT, not MIRRORED, not STRAIGHT; then STRAIGHT, neither MIRRORED nor FLAT
        Edges.range("FLAT", () -> Edges.told(8, Edges.LIKE, "a rise", "b rise"), (x, mask) -> x.blend(mask, 1), -2, 0,
            1, -1, 1, -1, -1, -1, -1, -1);
        Edges.range("STRAIGHT", () -> Edges.told(8, Edges.AA, "aa flat", "aa cross"), (x, mask) -> x.blend(mask, 1), -2, 0,
            1, -1, -1, -1, 1, -1, -1, -1);
        for (int k = 0; k < 6; k++) {
            int where = k;
            Edges.stays("bowed at one place", () -> Edges.bowed(where), x -> x.blend(2, 1), -1);
        }
    }

    static void p29_masksAndNoPlate() {
        Edges.range("mask", Edges::mirrored, (x, mask) -> x.blend(mask, 1), -2, 0, 1, 1, 1, 1, 1, 1, 1, 1);
        Edges.refusedOutside("mask", Edges::busy, (x, mask) -> x.blend(mask, 1), -2, 0, 7);
        Edges.noPlate(x -> x.blend(0, 1));
    }

    // ---- 30 ----

    static void p30_oneToThreeDropped() {
        strides("d", (x, d) -> x.blends(1, d), 4, 3, 2);
        Edges.range("by two at least", BoundaryThinTest::woven, (x, d) -> x.blends(4, d), -2, 1, 1, 4, 4);
        Edges.range("no PLIES", Edges::empty, (x, d) -> x.blends(7, d), -2, 1, 1, 1, 1);
    }

    static void p30_itIsNotSoItself() {
        for (int d = 1; d <= 3; d++) {
            int most = d;
            Edges.stays("not MIRRORED", Edges::busy, x -> x.blends(1, most), -1);
            Edges.stays("a RUN too long", () -> Edges.flats(3, 2), x -> x.blends(0, most), -1);
        }
    }

    static void p30_fromOneToEightPlates() {
        for (int n = 1; n <= 8; n++) {
            PlyStacker x = Edges.flats(n, 8);
            for (int d = 1; d <= 3; d++) Edges.due("of " + n, x.blends(7, d), 1 + (n - 1 + d - 1) / d);
        }
    }

    static void p30_theShortestWayToAsFew() {
        // to PLY 0 and to PLY 4 alone it is longer than to PLY 2
        Edges.Maker maker = () -> Edges.told(1, Edges.AA, "aa flat", "aa rise", "aa cross", "aa fall", "aa cross");
        Edges.stays("the fewest", maker, x -> x.blend(4, 2), 1);
        Edges.stays("the shortest way", maker, x -> x.blends(4, 2), 3);
        Edges.stays("to another one, too", maker, x -> x.comes(4, 2, 1), 1);
        Edges.stays("in one step", () -> Edges.told(8, Edges.AA, "aa rise", "aa fall", "aa flat", "aa rise", "aa fall"),
            x -> x.blends(4, 3), 3);
    }

    static void p30_masksAndNoPlate() {
        Edges.range("mask", Edges::mirrored, (x, mask) -> x.blends(mask, 1), -2, 0, 4, 4, 4, 4, 4, 4, 4, 4);
        Edges.refusedOutside("mask", Edges::busy, (x, mask) -> x.blends(mask, 1), -2, 0, 7);
        Edges.noPlate(x -> x.blends(0, 1));
    }

    // ---- 31 ----

    static void p31_setsFromOneToAllPlies() {
        Edges.range("set", Edges::mirrored, (x, set) -> x.comes(1, 1, set), -2, 1,
            1, 0, 0, 0, 0, 0, 0, 1, 1, 0, 1, 0, 1, 0, 1);
        Edges.range("set", Edges::mirrored, (x, set) -> x.comes(1, 2, set), -2, 1,
            1, 1, 0, 1, 0, 1, 0, 1, 1, 0, 1, 0, 1, 0, 1);
        Edges.range("not so itself", Edges::busy, (x, set) -> x.comes(1, 3, set), -2, 1,
            0, 0, 0, 0, 0, 0, 0, 0, 0, 0, 0, 0, 0, 0, 0);
        Edges.range("a PLY", () -> Edges.flats(1, 1), (x, set) -> x.comes(7, 1, set), -2, 1, 1);
        Edges.refusedOutside("no PLIES", Edges::empty, (x, set) -> x.comes(0, 1, set), -2, 1, 0);
        Edges.due("all of eight", Edges.full().comes(0, 1, 255), 1);
        Edges.refusedOutside("of eight", Edges::full, (x, set) -> x.comes(0, 1, set), -2, 1, 255);
    }

    static void p31_toEachSet() {
        Edges.range("set", () -> Edges.flats(4, 8), (x, set) -> x.comes(7, 1, set), -2, 1,
            1, 1, 1, 1, 1, 1, 1, 1, 1, 1, 1, 1, 1, 1, 1);
    }

    static void p31_oneToThreeDropped() {
        strides("to the inner ones", (x, d) -> x.count(2) == 0 ? x.blend(1, d) : x.comes(1, d, 6), 0, 1, 1);
        Edges.refusedOutside("d", Edges::mirrored, (x, d) -> x.comes(1, d, 15), -2, 1, 3);
    }

    static void p31_masksAndNoPlate() {
        Edges.range("mask", Edges::mirrored, (x, mask) -> x.comes(mask, 1, 7), -2, 0, 1, 0, 0, 0, 1, 0, 0, 0);
        Edges.refusedOutside("mask", Edges::busy, (x, mask) -> x.comes(mask, 1, 1), -2, 0, 7);
        Edges.noPlate(x -> x.comes(0, 1, 1));
        Edges.noPlate(x -> x.comes(0, 1, 0));
    }

    // ---- 32 ----

    private static void way(Edges.Maker maker, int mask, int d, int... sets) {
        for (int i = 0; i < sets.length; i++) {
            int at = i;
            Edges.stays("step", maker, x -> x.step(mask, d, at), sets[i]);
        }
        for (int i : new int[] {sets.length, sets.length + 1, 65536, Edges.MAX}) {
            Edges.stays("not so many", maker, x -> x.step(mask, d, i), -1);
        }
        for (int i : new int[] {-1, -2, Edges.MIN}) Edges.stays("below 0", maker, x -> x.step(mask, d, i), -2);
    }

    static void p32_notSoManyAndBelow0() {
        way(Edges::mirrored, 1, 1, 15, 11, 9, 1);
        way(Edges::mirrored, 1, 2, 15, 9, 1);
        way(Edges::mirrored, 1, 3, 15, 1);
        way(BoundaryThinTest::woven, 4, 1, 255);
        way(() -> Edges.flats(1, 1), 7, 3, 1);
        way(() -> Edges.flats(8, 8), 7, 1, 255, 127, 63, 31, 15, 7, 3, 1);
        way(() -> Edges.flats(8, 8), 7, 3, 255, 31, 3, 1);
    }

    static void p32_withoutPliesAndNotSoItself() {
        way(Edges::empty, 0, 1, 0);
        way(Edges::empty, 7, 3, 0);
        way(Edges::busy, 1, 1);
        way(() -> Edges.flats(3, 2), 0, 3);
    }

    static void p32_oneToThreeDropped() {
        strides("d", (x, d) -> x.step(1, d, 1), 11, 9, 1);
        Edges.refusedOutside("d", Edges::mirrored, (x, d) -> x.step(1, d, 0), -2, 1, 3);
    }

    static void p32_theLeastSetWithSoShortAWay() {
        // one PLY is come to as soon from above as from below; a nearer set comes ahead of a lesser one
        way(() -> Edges.told(8, Edges.AA, "aa rise", "aa fall", "aa flat", "aa rise", "aa fall"), 4, 3, 31, 14, 4);
        way(() -> Edges.told(1, Edges.AA, "aa flat", "aa rise", "aa cross", "aa fall", "aa cross"), 4, 2, 31, 14, 4);
    }

    static void p32_aheadOfEachTheLeastSet() {
        // the inner four are STRAIGHT with the lowest PLY, with the highest, with both and with none of them
        Edges.Maker maker = () -> Edges.told(8, "kind a one 9 two 1 three 0 four 0 limit 1;"
            + "kind b one 9 two 3 three 0 four 0 limit 1;", "a flat", "a rise", "b fall", "b rise", "a fall", "a flat");
        way(maker, 4, 1, 63, 31, 30);
        Edges.stays("the greater one", maker, x -> x.comes(4, 1, 62), 1);
    }

    static void p32_masksAndNoPlate() {
        Edges.range("mask", Edges::mirrored, (x, mask) -> x.step(mask, 1, 1), -2, 0, 7, 11, 11, 11, 7, 11, 11, 11);
        Edges.refusedOutside("mask", Edges::busy, (x, mask) -> x.step(mask, 1, 0), -2, 0, 7);
        Edges.noPlate(x -> x.step(0, 1, 0));
    }

    public static void main(String[] args) {
        Edges.run(BoundaryThinTest.class, 27, 28, 29, 30, 31, 32);
    }
}
