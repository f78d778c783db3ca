/** Boundaries of promises 7 to 18: KINDS, PLIES, stiffness, evenness, STRAINS, BENDS, FACTORS (Terms II to IV). */
public final class BoundaryStiffTest {
    private static final long NOT_FLAT = Edges.NO_SUCH + 1;
    private static final String GREATEST = "kind g one 99 two 99 three 99 four 0 limit 999;";
    private static final String LEAST = "kind l one 1 two 99 three 99 four 99 limit 1;";

    private static PlyStacker same(int n, String kind, String ply) {
        String[] plies = new String[n];
        java.util.Arrays.fill(plies, ply);
        return Edges.told(8, kind, plies);
    }

    private static PlyStacker kinds(int n) {
        return Edges.told(2, (Edges.AA + Edges.BB + Edges.CC).substring(0, n == 0 ? 0 : n == 1 ? Edges.AA.length()
            : n == 2 ? (Edges.AA + Edges.BB).length() : (Edges.AA + Edges.BB + Edges.CC).length()));
    }

    // ---- 7 ----

    static void p07_thereIsNoSuchKind() {
        long[] ones = {20, 8, 9};
        for (int n = 0; n <= 3; n++) {
            int many = n;
            Edges.range("kind of " + n, () -> kinds(many), (x, kind) -> x.kind(kind, 0), -2, 0,
                java.util.Arrays.copyOf(ones, n));
        }
        Edges.range("kind", Edges::busy, (x, kind) -> x.kind(kind, 4), -2, 0, 40, 7);
    }

    static void p07_thereIsNoSuchWhat() {
        Edges.range("what", Edges::busy, (x, what) -> x.kind(0, what), -2, 0, 20, 10, 3, 5, 40, 3);
        Edges.range("what", Edges::busy, (x, what) -> x.kind(1, what), -2, 0, 8, 0, 1, 2, 7, 1);
    }

    static void p07_withoutAPlate() {
        Edges.stays("kind", Edges::none, x -> x.kind(0, 0), -2);
        Edges.stays("kind", Edges::bare, x -> x.kind(0, 0), -2);
        Edges.stays("kind", Edges::bare, x -> x.kind(0, 5), -2);
    }

    static void p07_noneToEightPliesOfIt() {
        for (int n = 0; n <= 8; n++) {
            PlyStacker x = same(n, Edges.AA + Edges.BB, "bb rise");
            Edges.due("of KIND 0", x.kind(0, 5), 0);
            Edges.due("of KIND 1", x.kind(1, 5), n);
        }
    }

    static void p07_ofItsOwnKindAloneAsThePlateIs() {
        PlyStacker x = Edges.told(8, Edges.AA + Edges.BB + Edges.CC, "aa cross", "bb flat", "bb rise", "bb fall", "bb cross",
            "cc flat", "cc flat", "cc cross");
        int[] due = {1, 4, 3};
        for (int kind = 0; kind < 3; kind++) Edges.due("of KIND " + kind, x.kind(kind, 5), due[kind]);
        x.drop(4);
        Edges.due("dropped", x.kind(1, 5), 3);
        x.put(0, 0, 0);
        Edges.due("put in", x.kind(0, 5), 2);
        x.anew();
        for (int kind = 0; kind < 3; kind++) Edges.due("of KIND " + kind, x.kind(kind, 5), due[kind]);
    }

    static void p07_leastAndGreatestNumbers() {
        PlyStacker x = Edges.told(1, "kind a one 1 two 0 three 0 four 0 limit 1;kind b one 99 two 99 three 99 four 99 limit 999;");
        int[] least = {1, 0, 0, 0, 1};
        int[] most = {99, 99, 99, 99, 999};
        for (int what = 0; what < 5; what++) {
            Edges.due("the least", x.kind(0, what), least[what]);
            Edges.due("the greatest", x.kind(1, what), most[what]);
        }
    }

    // ---- 8 ----

    static void p08_thereIsNoSuchPly() {
        Edges.range("ply", Edges::busy, (x, ply) -> x.ply(ply, 2), -2, 0, 7, 1, 0, 2);
        Edges.range("ply", Edges::full, (x, ply) -> x.ply(ply, 2), -2, 0, 0, 1, 7, 2, 0, 1, 7, 2);
        Edges.range("ply", () -> same(1, Edges.AA, "aa fall"), (x, ply) -> x.ply(ply, 2), -2, 0, 2);
        Edges.refusedOutside("ply", Edges::empty, (x, ply) -> x.ply(ply, 2), -2, 0, -1);
        for (int what = 0; what < 5; what++) {
            int which = what;
            Edges.refusedOutside("ply", Edges::busy, (x, ply) -> x.ply(ply, which), -2, 0, 3);
        }
    }

    static void p08_thereIsNoSuchWhat() {
        Edges.range("what", Edges::busy, (x, what) -> x.ply(0, what), -2, 0, 1, 3, 7, -3, 28);
        Edges.range("what", Edges::busy, (x, what) -> x.ply(3, what), -2, 0, 0, 2, 2, 3, 28);
    }

    static void p08_withoutAPlate() {
        Edges.stays("ply", Edges::none, x -> x.ply(0, 0), -2);
        Edges.stays("ply", Edges::bare, x -> x.ply(0, 3), -2);
    }

    static void p08_farAndThickOfOneToEightPlies() {
        int[] thick = {1, 4, 13, 28, 49, 76, 109, 148};
        for (int n = 1; n <= 8; n++) {
            PlyStacker x = same(n, Edges.AA, "aa flat");
            for (int k = 0; k < n; k++) {
                int far = -(n - 1) + 2 * k;
                Edges.due("FAR of " + k + " of " + n, x.ply(k, 3), far);
                Edges.due("THICK of " + k + " of " + n, x.ply(k, 4), thick[Math.abs(far)]);
            }
        }
    }

    static void p08_typesFromNoneToEleven() {
        String[] names = {"aa", "bb", "cc"};
        String[] angles = {"flat", "rise", "fall", "cross"};
        for (int type = 0; type < 12; type++) {
            PlyStacker x = Edges.told(1, Edges.AA + Edges.BB + Edges.CC, names[type / 4] + " " + angles[type % 4]);
            Edges.due("KIND", x.ply(0, 0), type / 4);
            Edges.due("ANGLE", x.ply(0, 1), type % 4);
            Edges.due("TYPE", x.ply(0, 2), type);
        }
    }

    // ---- 9 ----

    static void p09_thereIsNoSuchWhat() {
        Edges.range("what", Edges::uneven, (x, what) -> x.stiff(what, 0, 0), Edges.NO_SUCH, 0, 152, -112, 3008);
    }

    static void p09_thereIsNoSuchI() {
        Edges.range("i", Edges::uneven, (x, i) -> x.stiff(0, i, 1), Edges.NO_SUCH, 0, 38, 112, 0);
        Edges.range("i", Edges::uneven, (x, i) -> x.stiff(1, i, 2), Edges.NO_SUCH, 0, -40, -40, 19);
        Edges.range("i", Edges::uneven, (x, i) -> x.stiff(2, i, 0), Edges.NO_SUCH, 0, 3008, 632, -240);
    }

    static void p09_thereIsNoSuchJ() {
        Edges.range("j", Edges::uneven, (x, j) -> x.stiff(0, 0, j), Edges.NO_SUCH, 0, 152, 38, 0);
        Edges.range("j", Edges::uneven, (x, j) -> x.stiff(1, 1, j), Edges.NO_SUCH, 0, 22, 8, -40);
        Edges.range("j", Edges::uneven, (x, j) -> x.stiff(2, 2, j), Edges.NO_SUCH, 0, -240, -240, 940);
    }

    static void p09_withoutAPlateAndWithoutPlies() {
        for (int what = 0; what < 3; what++) {
            int which = what;
            Edges.stays("no PLATE", Edges::none, x -> x.stiff(which, 0, 0), Edges.NO_SUCH);
            Edges.stays("no PLATE", Edges::bare, x -> x.stiff(which, 2, 2), Edges.NO_SUCH);
            for (int cell = 0; cell < 9; cell++) {
                int at = cell;
                Edges.stays("no PLIES", Edges::empty, x -> x.stiff(which, at / 3, at % 3), 0);
            }
            Edges.stays("no KINDS", () -> kinds(0), x -> x.stiff(which, 1, 1), 0);
        }
    }

    static void p09_eachAngleOfOnePly() {
        // one 20 two 10 three 3 four 5: at 0 0, 1 1, 0 1, 2 2, 0 2
        long[][] due = {{66, 26, 4, 9, 0}, {34, 34, 16, 21, 10}, {34, 34, 16, 21, -10}, {26, 66, 4, 9, 0}};
        String[] angles = {"flat", "rise", "fall", "cross"};
        for (int angle = 0; angle < 4; angle++) {
            PlyStacker x = Edges.told(1, Edges.AA, "aa " + angles[angle]);
            for (int what = 0; what < 3; what += 2) {
                Edges.due("0 0", x.stiff(what, 0, 0), due[angle][0]);
                Edges.due("1 1", x.stiff(what, 1, 1), due[angle][1]);
                Edges.due("0 1", x.stiff(what, 0, 1), due[angle][2]);
                Edges.due("1 0", x.stiff(what, 1, 0), due[angle][2]);
                Edges.due("2 2", x.stiff(what, 2, 2), due[angle][3]);
                for (int i = 0; i < 2; i++) {
                    Edges.due("i 2", x.stiff(what, i, 2), due[angle][4]);
                    Edges.due("2 i", x.stiff(what, 2, i), due[angle][4]);
                }
            }
            for (int cell = 0; cell < 9; cell++) Edges.due("B of one PLY", x.stiff(1, cell / 3, cell % 3), 0);
        }
    }

    static void p09_greatestAndLeastEntries() {
        PlyStacker x = same(8, GREATEST, "g flat");
        Edges.due("A at 0 0", x.stiff(0, 0, 0), 8 * 594);
        Edges.due("D at 0 0", x.stiff(2, 0, 0), 512 * 594);
        Edges.due("A at 0 1", x.stiff(0, 0, 1), 8 * -198);
        Edges.due("D at 1 1", x.stiff(2, 1, 1), 512 * 198);
        x = same(8, GREATEST, "g rise");
        Edges.due("A at 0 0", x.stiff(0, 0, 0), 0);
        Edges.due("A at 2 2", x.stiff(0, 2, 2), 8 * 297);
        Edges.due("D at 1 2", x.stiff(2, 1, 2), 512 * 99);
        x = same(8, LEAST, "l cross");
        Edges.due("A at 0 0", x.stiff(0, 0, 0), 8 * 2);
        Edges.due("D at 2 2", x.stiff(2, 2, 2), 512 * -296);
        x = same(8, LEAST, "l rise");
        Edges.due("D at 0 0", x.stiff(2, 0, 0), 512 * -196);
        Edges.due("D at 0 1", x.stiff(2, 0, 1), 512 * 396);
    }

    // ---- 10 ----

    static void p10_withoutAPlateAndWithoutPlies() {
        Edges.stays("no PLATE", Edges::none, x -> x.even(), -2);
        Edges.stays("no PLATE", Edges::bare, x -> x.even(), -2);
        Edges.stays("no PLIES", Edges::empty, x -> x.even(), 15);
        Edges.stays("no KINDS", () -> kinds(0), x -> x.even(), 15);
    }

    static void p10_onePly() {
        int[] due = {15, 3, 3, 15};
        String[] angles = {"flat", "rise", "fall", "cross"};
        for (int angle = 0; angle < 4; angle++) {
            String ply = "aa " + angles[angle];
            Edges.stays(ply, () -> Edges.told(1, Edges.AA, ply), x -> x.even(), due[angle]);
        }
    }

    static void p10_mirroredForEachPair() {
        for (int n = 2; n <= 8; n++) {
            PlyStacker x = same(n, Edges.AA, "aa flat");
            Edges.due("mirrored", x.even() & 1, 1);
            for (int k = 0; k < n; k++) {
                x.turn(k, 3);
                Edges.due("PLY " + k + " of " + n + " turned", x.even() & 1, 2 * k + 1 == n ? 1 : 0);
                if (2 * k + 1 != n) {
                    x.turn(n - 1 - k, 3);
                    Edges.due("both turned", x.even() & 1, 1);
                    x.undo();
                }
                x.undo();
            }
        }
        Edges.due("by TYPE, not by ANGLE", Edges.told(8, Edges.LIKE, "a flat", "b flat").even(), 14);
    }

    static void p10_flatAtAllPlaces() {
        int[] even = {12, 12, 12, 12, 0, 0};
        for (int where = 0; where < 6; where++) Edges.due("bowed at one place", Edges.bowed(where).even(), even[where]);
        Edges.due("not bowed", Edges.told(8, Edges.LIKE, "a rise", "b rise").even(), 2);
    }

    static void p10_straightInPlaneAndInBending() {
        // THICK is 28 4 4 28: A is straight where both are alike, D where the inner one is seven times the outer
        Edges.due("A alone is straight", Edges.skew(3, 3).even(), 3);
        Edges.due("D alone is straight", Edges.skew(3, 21).even(), 3);
        Edges.due("near to it", Edges.skew(3, 20).even(), 3);
        Edges.due("both are", Edges.skew(0, 0).even(), 7);
        Edges.due("neither", Edges.skew(1, 0).even(), 3);
        Edges.due("neither", Edges.skew(0, 1).even(), 3);
    }

    static void p10_balancedByEachKind() {
        Edges.due("none rises", Edges.told(8, Edges.AA, "aa flat", "aa flat").even() & 8, 8);
        Edges.due("one more rises", Edges.told(8, Edges.AA, "aa rise", "aa fall", "aa rise").even() & 8, 0);
        Edges.due("as many", Edges.told(8, Edges.AA, "aa rise", "aa fall", "aa rise", "aa fall").even() & 8, 8);
        Edges.due("one more falls", Edges.told(8, Edges.AA, "aa fall", "aa fall", "aa rise").even() & 8, 0);
        Edges.due("together, not each", Edges.told(8, Edges.LIKE, "a rise", "b fall").even() & 8, 0);
        Edges.due("the last KIND", Edges.told(8, Edges.AA + Edges.BB + Edges.CC, "cc fall").even() & 8, 0);
        Edges.due("each", Edges.told(8, Edges.LIKE, "a rise", "b fall", "a fall", "b rise").even() & 8, 8);
    }

    // ---- 11, 12 ----

    static void p11_withoutAPlateAndWithoutPlies() {
        Edges.stays("no PLATE", Edges::none, x -> x.warp(), -2);
        Edges.stays("no PLATE", Edges::bare, x -> x.warp(), -2);
        Edges.stays("no PLIES", Edges::empty, x -> x.warp(), 0);
        Edges.stays("a PLY", () -> same(1, Edges.AA, "aa rise"), x -> x.warp(), 0);
    }

    static void p11_noneAndAllNineTogether() {
        long[] bows = {16, 16, 16, 4, 8, 4};
        for (int where = 0; where < 6; where++) Edges.due("bowed at one place", Edges.bowed(where).warp(), bows[where]);
        Edges.due("FLAT", Edges.mirrored().warp(), 0);
        Edges.stays("by signs", Edges::uneven, x -> x.warp(), 343);
        String least = "kind a one 9 two 1 three 0 four 0 limit 1;kind b one 9 two 0 three 0 four 0 limit 1;";
        Edges.due("the least", Edges.told(8, least, "a rise", "b rise").warp(), 4);
    }

    static void p12_withoutAPlateAndWithoutPlies() {
        Edges.stays("no PLATE", Edges::none, x -> x.twist(), -2);
        Edges.stays("no PLATE", Edges::bare, x -> x.twist(), -2);
        Edges.stays("no PLIES", Edges::empty, x -> x.twist(), 0);
    }

    static void p12_noneAndTheseFourTogether() {
        Edges.due("STRAIGHT", Edges.mirrored().twist(), 0);
        Edges.due("D alone: 2 (56 - 8) 3", Edges.skew(3, 3).twist(), 2 * 48 * 3);
        Edges.due("A alone: 2 (2 21 - 2 3)", Edges.skew(3, 21).twist(), 2 * 36);
        Edges.due("near to it: A 34, D 8", Edges.skew(3, 20).twist(), 2 * 34 + 2 * 8);
        Edges.due("one rises", Edges.told(8, Edges.AA, "aa rise").twist(), 40);
        Edges.due("one falls", Edges.told(8, Edges.AA, "aa fall").twist(), 40);
        Edges.due("all rise", same(8, GREATEST, "g rise").twist(), 2 * 99 * (8 + 512));
    }

    // ---- 13, 14 ----

    static void p13_thereIsNoSuchWhat() {
        Edges.range("what", Edges::busy, (x, what) -> x.run(what), -2, 0, 1, 0);
        Edges.range("what", Edges::full, (x, what) -> x.run(what), -2, 0, 1, 0);
    }

    static void p13_withoutAPlateAndWithoutPlies() {
        Edges.stays("no PLATE", Edges::none, x -> x.run(0), -2);
        Edges.stays("no PLATE", Edges::bare, x -> x.run(1), -2);
        Edges.range("no PLIES", Edges::empty, (x, what) -> x.run(what), -2, 0, 0, -1);
    }

    static void p13_ofOneToEight() {
        for (int n = 1; n <= 8; n++) {
            PlyStacker x = same(n, Edges.AA + Edges.BB, "aa rise");
            Edges.due("how long", x.run(0), n);
            Edges.due("its first PLY", x.run(1), 0);
        }
    }

    static void p13_ofSeveralTheFirst() {
        PlyStacker x = Edges.told(8, Edges.AA + Edges.BB, "aa flat", "aa rise", "bb rise", "aa fall", "aa fall", "bb flat",
            "aa flat", "aa flat");
        Edges.due("the last one is longest", x.run(0), 3);
        Edges.due("its first PLY", x.run(1), 5);
        x.turn(7, 3);
        Edges.due("three of two", x.run(0), 2);
        Edges.due("the first of them", x.run(1), 1);
        x.turn(0, 1);
        Edges.due("the first one is longest", x.run(0), 3);
        Edges.due("its first PLY", x.run(1), 0);
    }

    static void p14_withoutAPlateAndWithoutPlies() {
        Edges.stays("no PLATE", Edges::none, x -> x.likes(), -2);
        Edges.stays("no PLATE", Edges::bare, x -> x.likes(), -2);
        Edges.stays("no PLIES", Edges::empty, x -> x.likes(), 0);
        Edges.stays("a PLY", () -> same(1, Edges.AA, "aa flat"), x -> x.likes(), 0);
    }

    static void p14_fromNoneToSeven() {
        PlyStacker x = same(8, Edges.AA, "aa flat");
        Edges.due("all", x.likes(), 7);
        x.turn(7, 1);
        Edges.due("all but the last", x.likes(), 6);
        x.turn(0, 1);
        Edges.due("all within", x.likes(), 5);
        x.turn(3, 1);
        Edges.due("one within", x.likes(), 3);
        Edges.stays("none", Edges::full, y -> y.likes(), 0);
        Edges.due("of two KINDS", Edges.told(8, Edges.LIKE, "a flat", "b flat").likes(), 1);
    }

    // ---- 15, 16 ----

    static void p15_loadsFrom999BelowTo999Above() {
        Edges.loads("strain", Edges::mirrored, (x, a, b, c) -> x.strain(a, b, c, 0, 0), Edges.NO_SUCH);
        Edges.loads("strain", Edges::mirrored, (x, a, b, c) -> x.strain(a, b, c, 2, 1), Edges.NO_SUCH);
        Edges.loads("not flat", Edges::busy, (x, a, b, c) -> x.strain(a, b, c, 1, 0), Edges.NO_SUCH);
        for (int load : new int[] {-999, 999}) {
            Edges.stays("at 0", () -> Edges.slanted(40), x -> x.strain(load, load, 0, 0, 0), load);
            Edges.stays("at 0", () -> Edges.slanted(40), x -> x.strain(load, load, 0, 0, 1), 100);
            Edges.stays("at 2", () -> Edges.slanted(40), x -> x.strain(0, 0, load, 2, 0), load / 3);
            Edges.stays("at 2", () -> Edges.slanted(40), x -> x.strain(0, 0, load, 2, 1), 14);
        }
    }

    static void p15_thereIsNoSuchI() {
        Edges.range("i", Edges::mirrored, (x, i) -> x.strain(48, 0, 6, i, 0), Edges.NO_SUCH, 0, 11, -1, 1);
        Edges.refusedOutside("i", Edges::busy, (x, i) -> x.strain(48, 0, 6, i, 0), Edges.NO_SUCH, 0, 2);
    }

    static void p15_thereIsNoSuchWhat() {
        Edges.range("what", Edges::mirrored, (x, what) -> x.strain(48, 0, 6, 1, what), Edges.NO_SUCH, 0, -1, 10);
        Edges.refusedOutside("what", Edges::busy, (x, what) -> x.strain(48, 0, 6, 1, what), Edges.NO_SUCH, 0, 1);
    }

    static void p15_withoutAPlateAndNotFlat() {
        Edges.stays("no PLATE", Edges::none, x -> x.strain(0, 0, 0, 0, 0), Edges.NO_SUCH);
        Edges.stays("no PLATE", Edges::bare, x -> x.strain(0, 0, 0, 0, 1), Edges.NO_SUCH);
        Edges.stays("not flat", Edges::busy, x -> x.strain(0, 0, 0, 0, 0), NOT_FLAT);
        Edges.stays("no PLIES", Edges::empty, x -> x.strain(0, 0, 0, 0, 0), NOT_FLAT);
        for (int where = 0; where < 6; where++) {
            Edges.due("bowed at one place", Edges.bowed(where).strain(1, 0, 0, 0, 0), NOT_FLAT);
        }
        Edges.due("flat, not mirrored", Edges.told(8, Edges.LIKE, "a flat", "b flat").strain(0, 0, 6, 2, 0), 1);
    }

    static void p15_detOfAIsZero() {
        Edges.stays("one below", () -> Edges.slack(1), x -> x.strain(0, 0, 1, 2, 0), -2);
        Edges.stays("it is", () -> Edges.slack(2), x -> x.strain(0, 0, 1, 2, 0), NOT_FLAT);
        Edges.stays("it is", () -> Edges.slack(2), x -> x.strain(0, 0, 0, 0, 1), NOT_FLAT);
        Edges.stays("one above", () -> Edges.slack(3), x -> x.strain(0, 0, 1, 2, 0), 2);
        Edges.stays("that of D alone", () -> Edges.slack(26), x -> x.strain(0, 0, 12, 2, 0), 1);
    }

    static void p15_detOfAIsZeroByA02() {
        // twice A: 10 0 two, 0 10 two, two two 5
        Edges.range("one below", () -> Edges.leaning(4), (x, what) -> x.strain(0, 0, 1, 2, what), Edges.NO_SUCH, 0, 10, 9);
        Edges.stays("it is", () -> Edges.leaning(5), x -> x.strain(0, 0, 1, 2, 0), NOT_FLAT);
        Edges.range("one above", () -> Edges.leaning(6), (x, what) -> x.strain(0, 0, 1, 2, what), Edges.NO_SUCH, 0, -10, 11);
        Edges.range("0 by it", () -> Edges.leaning(4), (x, what) -> x.strain(0, 0, 1, 0, what), Edges.NO_SUCH, 0, -4, 9);
    }

    static void p15_unlikeStiffAlongBothAndNotStraight() {
        // twice A: 36 0 6, 0 24 6, 6 6 15; DET 10800
        Edges.range("i", () -> Edges.told(3, "kind a one 5 two 3 three 0 four 0 limit 9;", "a rise", "a flat", "a rise"),
            (x, what) -> x.strain(0, 0, 1, 2, what), Edges.NO_SUCH, 0, 4, 25);
    }

    private interface Yielding {
        long tell(PlyStacker x, int[] loads, int i, int what);
    }

    /** What tilted() yields by each load alone and by three together: three numbers each, above and below. */
    private static void yields(Yielding asker, long[][]... due) {
        int[][] loads = {{1, 0, 0}, {0, 1, 0}, {0, 0, 1}, {100, -200, 300}};
        PlyStacker x = Edges.tilted(40, 25);
        for (int k = 0; k < loads.length; k++) {
            for (int cell = 0; cell < 6; cell++) {
                Edges.due("by load " + k, asker.tell(x, loads[k], cell / 2, cell % 2), due[k][cell / 2][cell % 2]);
            }
        }
    }

    static void p15_eachStrainByEachLoad() {
        yields((x, n, i, what) -> x.strain(n[0], n[1], n[2], i, what),
            new long[][] {{189, 4192}, {-79, 4192}, {-15, 2096}}, new long[][] {{-79, 4192}, {277, 4192}, {-27, 2096}},
            new long[][] {{-15, 2096}, {-27, 2096}, {101, 1048}}, new long[][] {{6425, 1048}, {-19875, 1048}, {16125, 524}});
    }

    static void p15_noStrainIs0By1AndTheLowerNumberIsAbove0() {
        for (int i = 0; i < 3; i++) {
            int at = i;
            Edges.range("of nothing", Edges::mirrored, (x, what) -> x.strain(0, 0, 0, at, what), Edges.NO_SUCH, 0, 0, 1);
        }
        Edges.range("of another load", Edges::mirrored, (x, what) -> x.strain(48, 0, 0, 2, what), Edges.NO_SUCH, 0, 0, 1);
        Edges.range("DET below 0", () -> Edges.slack(1), (x, what) -> x.strain(0, 0, 1, 2, what), Edges.NO_SUCH, 0, -2, 1);
        Edges.range("both below 0", () -> Edges.slack(1), (x, what) -> x.strain(0, 0, -1, 2, what), Edges.NO_SUCH, 0, 2, 1);
        Edges.range("load below 0", () -> Edges.slack(3), (x, what) -> x.strain(0, 0, -1, 2, what), Edges.NO_SUCH, 0, -2, 1);
    }

    static void p16_momentsFrom999BelowTo999Above() {
        Edges.loads("bend", Edges::mirrored, (x, a, b, c) -> x.bend(a, b, c, 0, 0), Edges.NO_SUCH);
        Edges.loads("bend", Edges::mirrored, (x, a, b, c) -> x.bend(a, b, c, 2, 1), Edges.NO_SUCH);
        Edges.loads("not flat", Edges::busy, (x, a, b, c) -> x.bend(a, b, c, 1, 0), Edges.NO_SUCH);
        Edges.stays("999", Edges::mirrored, x -> x.bend(999, 0, 0, 0, 0), 9);
        Edges.stays("999", Edges::mirrored, x -> x.bend(999, 0, 0, 0, 1), 8);
        Edges.stays("-999", Edges::mirrored, x -> x.bend(-999, 0, 0, 0, 0), -9);
        Edges.stays("-999", Edges::mirrored, x -> x.bend(-999, 0, 0, 0, 1), 8);
    }

    static void p16_thereIsNoSuchI() {
        Edges.range("i", Edges::mirrored, (x, i) -> x.bend(111, 0, 96, i, 0), Edges.NO_SUCH, 0, 1, -1, 1);
        Edges.refusedOutside("i", Edges::busy, (x, i) -> x.bend(111, 0, 96, i, 0), Edges.NO_SUCH, 0, 2);
    }

    static void p16_thereIsNoSuchWhat() {
        Edges.range("what", Edges::mirrored, (x, what) -> x.bend(111, 0, 96, 1, what), Edges.NO_SUCH, 0, -1, 64);
        Edges.refusedOutside("what", Edges::busy, (x, what) -> x.bend(111, 0, 96, 1, what), Edges.NO_SUCH, 0, 1);
    }

    static void p16_withoutAPlateAndNotFlat() {
        Edges.stays("no PLATE", Edges::none, x -> x.bend(0, 0, 0, 0, 0), Edges.NO_SUCH);
        Edges.stays("no PLATE", Edges::bare, x -> x.bend(0, 0, 0, 0, 1), Edges.NO_SUCH);
        Edges.stays("not flat", Edges::busy, x -> x.bend(0, 0, 0, 0, 0), NOT_FLAT);
        Edges.stays("no PLIES", Edges::empty, x -> x.bend(0, 0, 0, 0, 0), NOT_FLAT);
        for (int where = 0; where < 6; where++) Edges.due("bowed at one place", Edges.bowed(where).bend(1, 0, 0, 0, 0), NOT_FLAT);
    }

    static void p16_detOfDIsZero() {
        Edges.stays("one below", () -> Edges.slack(25), x -> x.bend(0, 0, 1, 2, 0), -2);
        Edges.stays("it is", () -> Edges.slack(26), x -> x.bend(0, 0, 1, 2, 0), NOT_FLAT);
        Edges.stays("it is", () -> Edges.slack(26), x -> x.bend(0, 0, 0, 0, 1), NOT_FLAT);
        Edges.stays("one above", () -> Edges.slack(27), x -> x.bend(0, 0, 1, 2, 0), 2);
        Edges.stays("that of A alone", () -> Edges.slack(2), x -> x.bend(0, 0, 12, 2, 0), -1);
    }

    static void p16_detOfDIsZeroByD02() {
        Edges.range("one below", () -> Edges.leaning(4), (x, what) -> x.bend(0, 0, 1, 2, what), Edges.NO_SUCH, 0, 10, 9);
        Edges.stays("it is", () -> Edges.leaning(5), x -> x.bend(0, 0, 1, 2, 0), NOT_FLAT);
        Edges.range("one above", () -> Edges.leaning(6), (x, what) -> x.bend(0, 0, 1, 2, what), Edges.NO_SUCH, 0, -10, 11);
    }

    static void p16_eachBendByEachMoment() {
        yields((x, n, i, what) -> x.bend(n[0], n[1], n[2], i, what),
            new long[][] {{2265, 391744}, {-1363, 391744}, {-231, 195872}},
            new long[][] {{-1363, 391744}, {2593, 391744}, {-315, 195872}},
            new long[][] {{-231, 195872}, {-315, 195872}, {737, 97936}},
            new long[][] {{90125, 97936}, {-210975, 97936}, {120525, 48968}});
    }

    static void p16_noBendIs0By1AndTheLowerNumberIsAbove0() {
        for (int i = 0; i < 3; i++) {
            int at = i;
            Edges.range("of nothing", Edges::mirrored, (x, what) -> x.bend(0, 0, 0, at, what), Edges.NO_SUCH, 0, 0, 1);
        }
        Edges.range("DET below 0", () -> Edges.slack(25), (x, what) -> x.bend(0, 0, 1, 2, what), Edges.NO_SUCH, 0, -2, 1);
        Edges.range("both below 0", () -> Edges.slack(25), (x, what) -> x.bend(0, 0, -1, 2, what), Edges.NO_SUCH, 0, 2, 1);
    }

    // ---- 17 ----

    static void p17_loadsFrom999BelowTo999Above() {
        Edges.loads("factor", Edges::mirrored, (x, a, b, c) -> x.factor(a, b, c, 0), -2);
        Edges.loads("factor", Edges::busy, (x, a, b, c) -> x.factor(a, b, c, 2), -2);
        Edges.range("999", () -> Edges.slanted(40), (x, what) -> x.factor(999, 999, 0, what), -2, 0, 4000, 999, 0);
        Edges.range("-999", () -> Edges.slanted(40), (x, what) -> x.factor(-999, -999, 0, what), -2, 0, 4000, 999, 0);
    }

    static void p17_thereIsNoSuchWhat() {
        Edges.range("what", () -> Edges.slanted(40), (x, what) -> x.factor(100, 0, -42, what), -2, 0, 40, 1, 1);
        Edges.refusedOutside("what", Edges::busy, (x, what) -> x.factor(0, 0, 0, what), -2, 0, 2);
        Edges.refusedOutside("what", Edges::empty, (x, what) -> x.factor(0, 0, 0, what), -2, 0, 2);
    }

    static void p17_noPlyIsStrained() {
        Edges.range("no load", () -> Edges.slanted(40), (x, what) -> x.factor(0, 0, 0, what), -2, 0, -1, -1, -1);
        Edges.range("evened out", () -> Edges.slanted(40), (x, what) -> x.factor(36, -36, 0, what), -2, 0, -1, -1, -1);
        Edges.range("one more", () -> Edges.slanted(40), (x, what) -> x.factor(36, -35, 0, what), -2, 0, 8000, 1, 0);
        Edges.range("one less", () -> Edges.slanted(40), (x, what) -> x.factor(36, -37, 0, what), -2, 0, 8000, 1, 0);
    }

    static void p17_withoutAPlateAndNotFlat() {
        Edges.stays("no PLATE", Edges::none, x -> x.factor(0, 0, 0, 0), -2);
        Edges.stays("no PLATE", Edges::bare, x -> x.factor(0, 0, 0, 2), -2);
        Edges.stays("not flat", Edges::busy, x -> x.factor(0, 0, 0, 0), -6);
        Edges.stays("no PLIES", Edges::empty, x -> x.factor(0, 0, 0, 2), -6);
        for (int where = 0; where < 6; where++) Edges.due("bowed at one place", Edges.bowed(where).factor(1, 0, 0, 0), -6);
    }

    static void p17_detOfAIsZero() {
        Edges.stays("it is", () -> Edges.slack(2), x -> x.factor(1, 0, 0, 0), -6);
        Edges.stays("it is", () -> Edges.slack(2), x -> x.factor(0, 0, 0, 0), -6);
        Edges.stays("one below", () -> Edges.slack(1), x -> x.factor(0, 0, 0, 0), -1);
        Edges.stays("one above", () -> Edges.slack(3), x -> x.factor(0, 0, 0, 0), -1);
        Edges.stays("that of D alone", () -> Edges.slack(26), x -> x.factor(0, 0, 0, 0), -1);
    }

    static void p17_detOfAIsZeroByA02() {
        // half of STRAINS together is 1 by 18, 1 by 22, the LIMIT is 9
        Edges.range("one below", () -> Edges.leaning(4), (x, what) -> x.factor(1, 0, 0, what), -2, 0, 162, 1, 0);
        Edges.stays("it is", () -> Edges.leaning(5), x -> x.factor(1, 0, 0, 0), -6);
        Edges.range("one above", () -> Edges.leaning(6), (x, what) -> x.factor(1, 0, 0, what), -2, 0, 198, 1, 0);
    }

    /** Flat, cross, flat; A: 20 0 0, 0 20 0, 0 0 10; the LIMITS are 9 and another. */
    private static PlyStacker crossed(int limit) {
        return Edges.told(3, "kind a one 5 two 5 three 0 four 0 limit 9;kind b one 10 two 10 three 0 four 0 limit " + limit
            + ";", "a flat", "b cross", "a flat");
    }

    static void p17_ofSeveralPliesTheFirst() {
        Edges.range("the second", () -> crossed(8), (x, what) -> x.factor(20, 20, 0, what), -2, 0, 8, 1, 1);
        Edges.range("both", () -> crossed(9), (x, what) -> x.factor(20, 20, 0, what), -2, 0, 9, 1, 0);
        Edges.range("the first", () -> crossed(10), (x, what) -> x.factor(20, 20, 0, what), -2, 0, 9, 1, 0);
        Edges.range("without sign", () -> crossed(8), (x, what) -> x.factor(20, -20, 0, what), -2, 0, 8, 1, 1);
    }

    static void p17_pliesNotStrainedAside() {
        Edges.range("the cross one alone", () -> crossed(999), (x, what) -> x.factor(0, 20, 0, what), -2, 0, 999, 1, 1);
        Edges.range("the flat ones alone", () -> crossed(1), (x, what) -> x.factor(20, 0, 0, what), -2, 0, 9, 1, 0);
        Edges.range("by little", () -> crossed(999), (x, what) -> x.factor(0, 1, 0, what), -2, 0, 19980, 1, 1);
    }

    static void p17_eachAngleAlongItself() {
        // STRAINS 6425, -19875, 32250 by 1048: along rise 1175 by 131, along flat 6425 by 1048
        Edges.range("flat", () -> Edges.tilted(40, 25), (x, what) -> x.factor(100, -200, 300, what), -2, 0, 1048, 257, 1);
        Edges.range("rise", () -> Edges.tilted(40, 28), (x, what) -> x.factor(100, -200, 300, what), -2, 0, 1048, 235, 0);
        // whirled, the same STRAINS lie along the others
        PlyStacker fall = Edges.told(8, "kind a one 5 two 3 three 1 four 2 limit 40;kind b one 7 two 2 three 0 four 1 limit 28;",
            "a fall", "b flat", "b flat", "a fall");
        long[] due = {1048, 235, 0};
        for (int what = 0; what < 3; what++) Edges.due("fall", fall.factor(100, -200, -300, what), due[what]);
        PlyStacker cross = Edges.told(8, "kind a one 5 two 3 three 1 four 2 limit 40;kind b one 7 two 2 three 0 four 1 limit 25;",
            "a rise", "b cross", "b cross", "a rise");
        long[] other = {1048, 257, 1};
        for (int what = 0; what < 3; what++) Edges.due("cross", cross.factor(-200, 100, 300, what), other[what]);
    }

    // ---- 18 ----

    static void p18_thereIsNoSuchAxis() {
        Edges.range("axis", Edges::uneven, (x, axis) -> x.modulus(axis, 0), -2, 0, 3895, 205);
        Edges.refusedOutside("axis", Edges::empty, (x, axis) -> x.modulus(axis, 0), -2, 0, 1);
    }

    static void p18_thereIsNoSuchWhat() {
        Edges.range("what", Edges::uneven, (x, what) -> x.modulus(0, what), -2, 0, 3895, 28);
        Edges.refusedOutside("what", Edges::empty, (x, what) -> x.modulus(0, what), -2, 0, 1);
    }

    static void p18_withoutAPlate() {
        Edges.stays("no PLATE", Edges::none, x -> x.modulus(0, 0), -2);
        Edges.stays("no PLATE", Edges::bare, x -> x.modulus(1, 1), -2);
    }

    /** Twice A: 2 - 2 two, 0, 0; 0, 2 + 2 two, 0; 0, 0, 1. */
    private static PlyStacker lean(int two) {
        return Edges.told(1, "kind a one 1 two " + two + " three 0 four 0 limit 1;", "a cross");
    }

    static void p18_aMinorOfZero() {
        Edges.stays("no PLIES", Edges::empty, x -> x.modulus(0, 0), -6);
        Edges.stays("no PLIES", Edges::empty, x -> x.modulus(1, 1), -6);
        Edges.range("one below", () -> lean(0), (x, what) -> x.modulus(1, what), -2, 0, 2, 1);
        Edges.range("it is", () -> lean(1), (x, what) -> x.modulus(1, what), -2, 0, -6, -6);
        Edges.range("one above", () -> lean(2), (x, what) -> x.modulus(1, what), -2, 0, 6, 1);
    }

    static void p18_detOfZeroIs0By1AndTheLowerNumberIsAbove0() {
        Edges.range("DET above 0", () -> lean(0), (x, what) -> x.modulus(0, what), -2, 0, 2, 1);
        Edges.range("DET of 0", () -> lean(1), (x, what) -> x.modulus(0, what), -2, 0, 0, 1);
        Edges.range("DET below 0", () -> lean(2), (x, what) -> x.modulus(0, what), -2, 0, -2, 1);
    }

    static void p18_unlikeAlongBothAndNotStraight() {
        Edges.range("along 0", () -> Edges.tilted(1, 1), (x, what) -> x.modulus(0, what), -2, 0, 8384, 189);
        Edges.range("along 1", () -> Edges.tilted(1, 1), (x, what) -> x.modulus(1, what), -2, 0, 8384, 277);
    }

    static void p18_aMinorNextTo0() {
        // twice A: 0 2 1, 2 0 1, 1 1 3: DET -8, both minors -1
        for (int k = 0; k < 2; k++) {
            int axis = k;
            Edges.range("one below 0", () -> Edges.told(1, "kind a one 1 two 1 three 1 four 0 limit 1;", "a rise"),
                (x, what) -> x.modulus(axis, what), -2, 0, 8, 1);
        }
    }

    static void p18_inLowestTermsAlready() {
        // twice A: 2 0 3, 0 2 3, 3 3 1: DET -32 by -7
        Edges.range("of no shared divisor", () -> Edges.told(1, "kind a one 1 two 3 three 0 four 0 limit 1;", "a rise"),
            (x, what) -> x.modulus(0, what), -2, 0, 32, 7);
        Edges.range("of all", () -> Edges.told(1, "kind a one 1 two 0 three 0 four 0 limit 1;", "a rise"),
            (x, what) -> x.modulus(0, what), -2, 0, 2, 1);
    }

    public static void main(String[] args) {
        Edges.run(BoundaryStiffTest.class, 7, 8, 9, 10, 11, 12, 13, 14, 15, 16, 17, 18);
    }
}
