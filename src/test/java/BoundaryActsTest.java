import java.util.LinkedHashMap;
import java.util.Map;

/** Boundaries of promises 36, 37 and 42 to 57: acts, how they are taken back, IMAGES. */
public final class BoundaryActsTest {
    private static final String[] ANGLES = {"flat", "rise", "fall", "cross"};

    /** TYPES 0 1 7 2 with so many acts; ROOM is 3, 6 or 7. */
    private static PlyStacker acted(int acts) {
        return Edges.acted(Edges.uneven(), acts);
    }

    /** An act as the 29th and as the 30th, then as one too many; and again when one was taken back. */
    private static void upTo30(String what, Edges.Call act, long want) {
        for (int acts = 28; acts < 30; acts++) {
            PlyStacker x = acted(acts);
            Edges.due(what + " behind " + acts, act.on(x), want);
            Edges.due("count(3)", x.count(3), acts + 1);
            Edges.due("undo()", x.undo(), acts);
            Edges.types(x, 0, 1, 7, 2);
            Edges.due("ROOM", x.count(0), acted(acts).count(0));
        }
        Edges.stays(what + " behind 30", () -> acted(30), act, -5);
        PlyStacker x = acted(30);
        act.on(x);
        x.undo();
        Edges.due(what + " when one was taken back", act.on(x), want);
        Edges.due("count(3)", x.count(3), 30);
    }

    /** What is an act: it counts as one, it leaves IMAGES, TAPE and FAULT alone, and undo() takes it back. */
    private static void isAnAct(String what, Edges.Call act, long want) {
        PlyStacker x = Edges.busy();
        Edges.due(what, act.on(x), want);
        Edges.due("acts", x.count(3), 5);
        Edges.due("ROOM", x.count(0), what.equals("room") ? 8 : 5);
        Edges.due("KINDS", x.count(1), 2);
        Edges.due("LINES", x.count(4), 7);
        Edges.leavesElse(what, Edges::busy, act);
        Edges.stays(what + " taken back", Edges::busy, y -> act.on(y) == want ? y.undo() : -9, 4);
    }

    // ---- 42 ----

    static void p42_thereIsNoSuchKind() {
        Edges.range("kind", Edges::busy, (x, kind) -> x.many(kind, 3), -2, 0, 0, 1);
        Edges.range("kind of three", () -> Edges.told(1, Edges.AA + Edges.BB + Edges.CC, "cc fall"),
            (x, kind) -> x.many(kind, 2), -2, 0, 0, 0, 1);
        Edges.refusedOutside("no KINDS", () -> Edges.told(1, ""), (x, kind) -> x.many(kind, 0), -2, 0, -1);
    }

    static void p42_thereIsNoSuchAngle() {
        Edges.range("angle", Edges::busy, (x, angle) -> x.many(0, angle), -2, 0, 1, 1, 1, 0);
        Edges.range("no PLIES", Edges::empty, (x, angle) -> x.many(0, angle), -2, 0, 0, 0, 0, 0);
    }

    static void p42_fromNoneToEightAndNoPlate() {
        PlyStacker x = Edges.empty();
        for (int n = 0; n <= 8; n++) {
            Edges.due("many", x.many(0, 2), n);
            x.put(n, 0, 2);
        }
        Edges.noPlate(y -> y.many(0, 0));
    }

    // ---- 43 ----

    static void p43_thereAreNoSuchPlies() {
        Edges.refusedOutside("ply", Edges::busy, (x, ply) -> x.swap(ply, 0), -2, 0, 3);
        Edges.refusedOutside("other", Edges::busy, (x, ply) -> x.swap(0, ply), -2, 0, 3);
        Edges.refusedOutside("both", Edges::busy, (x, ply) -> x.swap(ply, ply), -2, 0, 3);
        Edges.refusedOutside("no PLIES", Edges::empty, (x, ply) -> x.swap(ply, ply), -2, 0, -1);
        Edges.refusedOutside("of eight", Edges::full, (x, ply) -> x.swap(0, ply), -2, 0, 7);
        Edges.noPlate(x -> x.swap(0, 1));
    }

    static void p43_theFirstAndTheLast() {
        PlyStacker x = Edges.full();
        Edges.due("swap(0, 7)", x.swap(0, 7), 0);
        Edges.types(x, 2, 1, 7, 2, 0, 1, 7, 0);
        Edges.due("swap(7, 6)", x.swap(7, 6), 0);
        Edges.types(x, 2, 1, 7, 2, 0, 1, 0, 7);
        Edges.due("count(3)", x.count(3), 2);
    }

    static void p43_theyAreOneOrOfOneType() {
        for (int k = 0; k < 4; k++) {
            int ply = k;
            Edges.stays("one", Edges::busy, x -> x.swap(ply, ply), -5);
        }
        Edges.stays("of one TYPE", Edges::full, x -> x.swap(0, 4), -5);
        Edges.stays("of one TYPE", Edges::full, x -> x.swap(7, 3), -5);
        PlyStacker x = Edges.told(8, Edges.AA + Edges.BB, "aa flat", "bb flat");
        Edges.due("of one ANGLE alone", x.swap(0, 1), 0);
        Edges.types(x, 4, 0);
    }

    static void p43_isAnAct() {
        isAnAct("swap", x -> x.swap(0, 3), 0);
    }

    static void p43_thirtyActs() {
        upTo30("swap", x -> x.swap(0, 3), 0);
    }

    // ---- 44 ----

    static void p44_thereIsNoSuchPly() {
        Edges.refusedOutside("ply", Edges::busy, (x, ply) -> x.turn(ply, 0), -2, 0, 3);
        Edges.refusedOutside("no PLIES", Edges::empty, (x, ply) -> x.turn(ply, 0), -2, 0, -1);
        Edges.refusedOutside("of eight", Edges::full, (x, ply) -> x.turn(ply, 3), -2, 0, 7);
        PlyStacker x = Edges.full();
        Edges.due("the last", x.turn(7, 3), 2);
        Edges.due("the first", x.turn(0, 3), 0);
        Edges.types(x, 3, 1, 7, 2, 0, 1, 7, 3);
        Edges.noPlate(y -> y.turn(0, 0));
    }

    static void p44_thereIsNoSuchAngle() {
        Edges.refusedOutside("angle", Edges::busy, (x, angle) -> x.turn(0, angle), -2, 0, 3);
        Edges.refusedOutside("angle", () -> acted(30), (x, angle) -> x.turn(0, angle), -2, 0, 3);
    }

    static void p44_itHasThat() {
        for (int had = 0; had < 4; had++) {
            String ply = "bb " + ANGLES[had];
            for (int angle = 0; angle < 4; angle++) {
                PlyStacker x = Edges.told(1, Edges.AA + Edges.BB, ply);
                int to = angle;
                if (angle == had) {
                    Edges.stays("it has that", () -> Edges.told(1, Edges.AA + Edges.BB, ply), y -> y.turn(0, to), -5);
                } else {
                    Edges.due("turn", x.turn(0, angle), had);
                    Edges.types(x, 4 + angle);
                }
            }
        }
    }

    static void p44_isAnAct() {
        isAnAct("turn", x -> x.turn(0, 1), 3);
    }

    static void p44_thirtyActs() {
        upTo30("turn", x -> x.turn(2, 0), 3);
    }

    // ---- 45 ----

    static void p45_placesFrom0ToPlies() {
        int[][] due = {{5, 7, 1, 0, 2}, {7, 5, 1, 0, 2}, {7, 1, 5, 0, 2}, {7, 1, 0, 5, 2}, {7, 1, 0, 2, 5}};
        for (int at = 0; at <= 4; at++) {
            PlyStacker x = Edges.busy();
            Edges.due("put", x.put(at, 1, 1), 5);
            Edges.types(x, due[at]);
            Edges.due("count(3)", x.count(3), 5);
        }
        Edges.refusedOutside("at", Edges::busy, (x, at) -> x.put(at, 1, 1), -2, 0, 4);
        Edges.due("no PLIES", Edges.empty().put(0, 0, 0), 1);
        Edges.refusedOutside("no PLIES", Edges::empty, (x, at) -> x.put(at, 0, 0), -2, 0, 0);
        Edges.refusedOutside("eight", Edges::full, (x, at) -> x.put(at, 0, 0), -2, 0, 8);
        Edges.noPlate(x -> x.put(0, 0, 0));
    }

    static void p45_thereIsNoSuchKind() {
        Edges.refusedOutside("kind", Edges::busy, (x, kind) -> x.put(0, kind, 0), -2, 0, 1);
        Edges.refusedOutside("no KINDS", () -> Edges.told(1, ""), (x, kind) -> x.put(0, kind, 0), -2, 0, -1);
        PlyStacker x = Edges.told(1, Edges.AA + Edges.BB + Edges.CC);
        for (int kind = 0; kind < 3; kind++) Edges.due("put", x.put(kind, kind, 3), kind + 1);
        Edges.types(x, 3, 7, 11);
        Edges.refusedOutside("kind of three", () -> Edges.told(1, Edges.AA + Edges.BB + Edges.CC),
            (y, kind) -> y.put(0, kind, 0), -2, 0, 2);
    }

    static void p45_thereIsNoSuchAngle() {
        PlyStacker x = Edges.empty();
        for (int angle = 0; angle < 4; angle++) Edges.due("put", x.put(angle, 0, angle), angle + 1);
        Edges.types(x, 0, 1, 2, 3);
        Edges.refusedOutside("angle", Edges::busy, (y, angle) -> y.put(0, 0, angle), -2, 0, 3);
    }

    static void p45_thereAreEight() {
        PlyStacker x = Edges.full();
        x.drop(7);
        Edges.due("the eighth", x.put(7, 1, 3), 8);
        Edges.types(x, 0, 1, 7, 2, 0, 1, 7, 7);
        for (int at = 0; at <= 8; at += 4) {
            int place = at;
            Edges.stays("a ninth", Edges::full, y -> y.put(place, 0, 0), -5);
        }
    }

    static void p45_isAnAct() {
        isAnAct("put", x -> x.put(2, 0, 3), 5);
    }

    static void p45_thirtyActs() {
        upTo30("put", x -> x.put(4, 1, 1), 5);
    }

    // ---- 46 ----

    static void p46_thereIsNoSuchPly() {
        int[][] due = {{1, 0, 2}, {7, 0, 2}, {7, 1, 2}, {7, 1, 0}};
        for (int ply = 0; ply < 4; ply++) {
            PlyStacker x = Edges.busy();
            Edges.due("drop", x.drop(ply), 3);
            Edges.types(x, due[ply]);
        }
        Edges.refusedOutside("ply", Edges::busy, (x, ply) -> x.drop(ply), -2, 0, 3);
        Edges.refusedOutside("of eight", Edges::full, (x, ply) -> x.drop(ply), -2, 0, 7);
        Edges.due("the last of eight", Edges.full().drop(7), 7);
        Edges.noPlate(x -> x.drop(0));
    }

    static void p46_downToNone() {
        PlyStacker x = Edges.full();
        for (int n = 7; n >= 0; n--) Edges.due("drop", x.drop(0), n);
        Edges.types(x);
        Edges.due("there is a PLATE", x.even(), 15);
        Edges.refusedOutside("no PLIES", Edges::empty, (y, ply) -> y.drop(ply), -2, 0, -1);
        Edges.due("drop", x.drop(0), -2);
        Edges.due("count(3)", x.count(3), 8);
    }

    static void p46_isAnAct() {
        isAnAct("drop", x -> x.drop(1), 3);
    }

    static void p46_thirtyActs() {
        upTo30("drop", x -> x.drop(1), 3);
    }

    // ---- 47 ----

    static void p47_notSoManyAndBelow0() {
        int[] due = {2, 2, -5, 4, 2, 2};
        for (int k = 0; k < 6; k++) Edges.due("become", Edges.mirrored().become(0, k), due[k]);
        for (int k : new int[] {6, 7, 65536, Edges.MAX}) {
            Edges.stays("not so many", Edges::mirrored, x -> x.become(0, k), -1);
        }
        for (int k : new int[] {-1, -2, Edges.MIN}) {
            Edges.stays("below 0", Edges::mirrored, x -> x.become(0, k), -2);
            Edges.stays("below 0", Edges::busy, x -> x.become(1, k), -2);
        }
        Edges.stays("none at all", Edges::busy, x -> x.become(1, 0), -1);
        PlyStacker x = Edges.mirrored();
        Edges.due("the last MIRRORED", x.become(1, 1), 4);
        Edges.types(x, 3, 0, 0, 3);
        Edges.due("not so many", x.become(1, 2), -1);
        Edges.due("count(3)", x.count(3), 1);
    }

    static void p47_masksAndNoPlate() {
        for (int mask = 0; mask < 8; mask++) Edges.due("mask " + mask, Edges.mirrored().become(mask, 1), mask % 4 == 0 ? 2 : 4);
        Edges.refusedOutside("mask", Edges::mirrored, (x, mask) -> x.become(mask, 0), -2, 0, 7);
        Edges.refusedOutside("mask", Edges::busy, (x, mask) -> x.become(mask, 0), -2, 0, 7);
        Edges.noPlate(x -> x.become(0, 0));
    }

    static void p47_itIsThat() {
        Edges.stays("it is that", Edges::mirrored, x -> x.become(0, 2), -5);
        Edges.stays("it is that", Edges::mirrored, x -> x.become(7, 0), -5);
        Edges.stays("no PLIES", Edges::empty, x -> x.become(7, 0), -5);
        Edges.stays("no PLIES", Edges::empty, x -> x.become(7, 1), -1);
    }

    static void p47_isAnAct() {
        isAnAct("become", x -> x.become(0, 0), 3);
    }

    static void p47_thirtyActs() {
        upTo30("become", x -> x.become(0, 0), 2);
        Edges.stays("not so many behind 30", () -> acted(30), x -> x.become(0, 24), -1);
    }

    // ---- 48 ----

    static void p48_setsFromOneToAllPlies() {
        for (int set = 1; set < 15; set++) {
            PlyStacker x = Edges.busy();
            Edges.due("keep", x.keep(set), 4 - Integer.bitCount(set));
            Edges.due("count(2)", x.count(2), Integer.bitCount(set));
            Edges.due("count(3)", x.count(3), 5);
        }
        Edges.refusedOutside("set", Edges::busy, (x, set) -> x.keep(set), -2, 1, 15);
        Edges.refusedOutside("of eight", Edges::full, (x, set) -> x.keep(set), -2, 1, 255);
        Edges.refusedOutside("no PLIES", Edges::empty, (x, set) -> x.keep(set), -2, 1, 0);
        Edges.noPlate(x -> x.keep(1));
        Edges.noPlate(x -> x.keep(0));
    }

    static void p48_thePliesThatStay() {
        PlyStacker x = Edges.full();
        Edges.due("the last alone", x.keep(128), 7);
        Edges.types(x, 2);
        x = Edges.full();
        Edges.due("all but the first", x.keep(254), 1);
        Edges.types(x, 1, 7, 2, 0, 1, 7, 2);
        Edges.due("every other one", x.keep(0b1010101), 3);
        Edges.types(x, 1, 2, 1, 2);
    }

    static void p48_noneGoes() {
        Edges.stays("all", Edges::busy, x -> x.keep(15), -5);
        Edges.stays("all of eight", Edges::full, x -> x.keep(255), -5);
        Edges.stays("all of one", () -> Edges.told(1, Edges.AA, "aa flat"), x -> x.keep(1), -5);
    }

    static void p48_isAnAct() {
        isAnAct("keep", x -> x.keep(5), 2);
    }

    static void p48_thirtyActs() {
        upTo30("keep", x -> x.keep(9), 2);
    }

    // ---- 49 ----

    static void p49_roomsFromOneToEight() {
        for (int room = 1; room <= 8; room++) {
            PlyStacker x = Edges.uneven();
            Edges.due("room", x.room(room), room == 3 ? -5 : 0);
            Edges.due("count(0)", x.count(0), room);
            Edges.due("count(3)", x.count(3), room == 3 ? 0 : 1);
        }
        Edges.refusedOutside("room", Edges::busy, (x, room) -> x.room(room), -2, 1, 8);
        Edges.due("no PLIES", Edges.empty().room(8), 0);
        Edges.noPlate(x -> x.room(1));
    }

    static void p49_itIsSo() {
        Edges.stays("it is so", Edges::busy, x -> x.room(5), -5);
        Edges.stays("it is so", () -> Edges.told(1, ""), x -> x.room(1), -5);
        Edges.stays("it is so", Edges::full, x -> x.room(8), -5);
    }

    static void p49_isAnAct() {
        isAnAct("room", x -> x.room(8), 0);
    }

    static void p49_thirtyActs() {
        upTo30("room", x -> x.room(1), 0);
        Edges.refusedOutside("behind 30", () -> acted(30), (x, room) -> x.room(room), -2, 1, 8);
    }

    // ---- 50 ----

    static void p50_oneToThreePlacesAndRound() {
        int[][] due = {{1, 3, 0, 2}, {3, 2, 1, 0}, {2, 0, 3, 1}};
        for (int n = 1; n <= 3; n++) {
            PlyStacker x = Edges.told(1, Edges.AA, "aa flat", "aa rise", "aa fall", "aa cross");
            Edges.due("whirl", x.whirl(n), 4);
            Edges.types(x, due[n - 1]);
            Edges.due("whirled back", x.whirl(4 - n), 4);
            Edges.types(x, 0, 1, 2, 3);
            Edges.due("count(3)", x.count(3), 2);
        }
        Edges.refusedOutside("n", Edges::busy, (x, n) -> x.whirl(n), -2, 1, 3);
        Edges.refusedOutside("n", Edges::empty, (x, n) -> x.whirl(n), -2, 1, 3);
        Edges.noPlate(x -> x.whirl(1));
    }

    static void p50_noPliesAndEight() {
        for (int n = 1; n <= 3; n++) {
            int places = n;
            Edges.stays("no PLIES", Edges::empty, x -> x.whirl(places), -5);
        }
        PlyStacker x = Edges.told(8, Edges.AA + Edges.BB + Edges.CC, "cc cross", "cc cross", "cc cross", "cc cross",
            "cc cross", "cc cross", "cc cross", "cc fall");
        Edges.due("whirl", x.whirl(1), 8);
        Edges.types(x, 10, 10, 10, 10, 10, 10, 10, 8);
        Edges.due("whirl", x.whirl(3), 8);
        Edges.types(x, 11, 11, 11, 11, 11, 11, 11, 10);
        Edges.due("one", Edges.told(1, Edges.AA, "aa flat").whirl(2), 1);
    }

    static void p50_isAnAct() {
        isAnAct("whirl", x -> x.whirl(1), 4);
    }

    static void p50_thirtyActs() {
        upTo30("whirl", x -> x.whirl(2), 4);
    }

    // ---- 51 ----

    static void p51_ofNoneToEight() {
        Edges.stays("of none", Edges::mirrored, x -> x.upset(), -5);
        Edges.stays("rise, fall", () -> Edges.told(1, Edges.AA, "aa rise", "aa fall"), x -> x.upset(), -5);
        Edges.stays("no PLIES", Edges::empty, x -> x.upset(), -5);
        Edges.stays("one that lies flat", () -> Edges.told(1, Edges.AA, "aa flat"), x -> x.upset(), -5);
        PlyStacker x = Edges.told(1, Edges.AA, "aa flat", "aa rise", "aa flat");
        Edges.due("of one", x.upset(), 1);
        Edges.types(x, 0, 2, 0);
        x = Edges.told(1, Edges.AA, "aa rise", "aa rise");
        Edges.due("of two", x.upset(), 2);
        Edges.types(x, 2, 2);
        x = Edges.full();
        Edges.due("of eight", x.upset(), 8);
        Edges.types(x, 1, 7, 2, 0, 1, 7, 2, 0);
        Edges.due("count(3)", x.count(3), 1);
        Edges.noPlate(y -> y.upset());
    }

    static void p51_isAnAct() {
        isAnAct("upset", x -> x.upset(), 4);
    }

    static void p51_thirtyActs() {
        upTo30("upset", x -> x.upset(), 4);
    }

    // ---- 52 ----

    private static PlyStacker imaged(Edges.Call act) {
        PlyStacker x = Edges.told(1, Edges.AA + Edges.BB, "aa flat", "bb rise", "aa rise", "aa flat", "aa cross");
        x.image(2);
        act.on(x);
        x.image(1);
        x.back(2);
        return x;
    }

    static void p52_whirled0To3PlacesAndTurnedOver() {
        Map<Integer, Edges.Call> ways = new LinkedHashMap<>();
        for (int n = 0; n < 4; n++) {
            int places = n;
            ways.put(n, x -> places == 0 ? 0 : x.whirl(places));
            ways.put(n + 4, x -> x.upset() + (places == 0 ? 0 : x.whirl(places)));
        }
        ways.forEach((due, act) -> Edges.stays("turned", () -> imaged(act), x -> x.turned(1), due));
    }

    static void p52_theLeast() {
        Edges.Maker flat = () -> {
            PlyStacker x = Edges.told(1, Edges.AA, "aa flat");
            x.image(0);
            return x;
        };
        Edges.stays("0 ahead of 4", flat, x -> x.turned(0), 0);
        Edges.stays("2 ahead of 4", () -> {
            PlyStacker x = Edges.told(1, Edges.AA, "aa rise");
            x.image(0);
            x.upset();
            return x;
        }, x -> x.turned(0), 2);
        Edges.stays("no PLIES", () -> {
            PlyStacker x = Edges.empty();
            x.image(0);
            return x;
        }, x -> x.turned(0), 0);
    }

    static void p52_thereIsNone() {
        Edges.stays("another KIND", () -> imaged(x -> x.put(0, 1, 0) + x.drop(1)), x -> x.turned(1), -1);
        Edges.stays("one PLY more", () -> imaged(x -> x.put(5, 0, 0)), x -> x.turned(1), -1);
        Edges.stays("one PLY less", () -> imaged(x -> x.drop(0)), x -> x.turned(1), -1);
        Edges.stays("one turned", () -> imaged(x -> x.turn(0, 3)), x -> x.turned(1), -1);
        Edges.stays("no PLIES there", () -> imaged(x -> x.keep(1) + x.drop(0)), x -> x.turned(1), -1);
        Edges.stays("a flat one more of KIND 0", () -> {
            // a PLY of TYPE 0 on top must not be taken for none
            PlyStacker x = Edges.told(1, Edges.AA, "aa rise");
            x.image(0);
            x.put(1, 0, 0);
            return x;
        }, x -> x.turned(0), -1);
    }

    static void p52_noSuchImageNothingAndNoPlate() {
        Edges.range("k", Edges::busy, (x, k) -> x.turned(k), -2, 0, -1, -6, -1);
        Edges.refusedOutside("k", Edges::uneven, (x, k) -> x.turned(k), -2, 0, 2);
        Edges.noPlate(x -> x.turned(0));
        Edges.noPlate(x -> x.turned(1));
    }

    // ---- 53, 54 ----

    static void p53_imagesFrom0To2() {
        for (int k = 0; k < 3; k++) {
            PlyStacker x = Edges.busy();
            Edges.due("image", x.image(k), 0);
            x.anew();
            x.keep(1);
            Edges.due("back", x.back(k), 0);
            Edges.types(x, 7, 1, 0, 2);
            Edges.due("count(3)", x.count(3), 4);
            Edges.due("count(0)", x.count(0), 5);
        }
        Edges.refusedOutside("k", Edges::busy, (x, k) -> x.image(k), -2, 0, 2);
        for (int k = 0; k < 3; k++) {
            int which = k;
            Edges.noPlate(x -> x.image(which));
        }
    }

    static void p53_theOthersAndThePlateStay() {
        Edges.due("image(1)", Edges.busy().image(1), 0);
        Edges.stays("what it has already", () -> {
            PlyStacker x = Edges.busy();
            x.image(1);
            return x;
        }, x -> x.image(1), 0);
        PlyStacker x = Edges.busy();
        x.image(1);
        x.drop(0);
        x.back(1);
        Edges.types(x, 7, 1, 0, 2);
        x.back(0);
        Edges.types(x, 0, 1, 7, 2, 4);
        x.back(2);
        Edges.types(x, 3, 2);
    }

    static void p53_noneAndThirtyActs() {
        for (int acts : new int[] {0, 1, 29, 30}) {
            PlyStacker x = acted(acts);
            x.image(0);
            x.anew();
            x.back(0);
            for (int k = acts - 1; k >= 0; k--) Edges.due("undo()", x.undo(), k);
            Edges.due("undo()", x.undo(), -5);
            Edges.due("ROOM", x.count(0), 3);
        }
    }

    static void p54_imagesFrom0To2() {
        Edges.refusedOutside("k", Edges::busy, (x, k) -> x.back(k), -2, 0, 2);
        Edges.refusedOutside("k", Edges::none, (x, k) -> x.back(k), -2, 0, 2);
        Edges.refusedOutside("k", Edges::bare, (x, k) -> x.back(k), -2, 0, 2);
        PlyStacker x = Edges.busy();
        Edges.due("back(2)", x.back(2), 0);
        Edges.types(x, 3, 2);
        Edges.due("back(0)", x.back(0), 0);
        Edges.types(x, 0, 1, 7, 2, 4);
    }

    static void p54_plateKindsLinesAndActs() {
        PlyStacker x = Edges.busy();
        Edges.due("back(2)", x.back(2), 0);
        int[] counts = {4, 1, 2, 1, 4, Edges.PENDING.length()};
        for (int what = 0; what < 6; what++) Edges.due("count(" + what + ")", x.count(what), counts[what]);
        Edges.due("its KIND", x.kind(0, 4), 999);
        Edges.due("no other KIND", x.kind(1, 0), -2);
        Edges.due("its act", x.undo(), 0);
        Edges.types(x, 1, 3);
        Edges.due("back(2) again", x.back(2), 0);
        Edges.types(x, 3, 2);
        Edges.due("its act again", x.count(3), 1);
        Edges.due("back(0)", x.back(0), 0);
        int[] others = {3, 2, 5, 1, 7, Edges.PENDING.length()};
        for (int what = 0; what < 6; what++) Edges.due("count(" + what + ")", x.count(what), others[what]);
        Edges.leavesElse("back(2)", Edges::busy, y -> y.back(2));
        Edges.leavesElse("back(0)", Edges::busy, y -> y.back(0));
    }

    static void p54_itHasNothing() {
        Edges.stays("nothing", Edges::busy, x -> x.back(1), -6);
        for (int k = 0; k < 3; k++) {
            int which = k;
            Edges.stays("nothing", Edges::none, x -> x.back(which), -6);
            Edges.stays("nothing", Edges::uneven, x -> x.back(which), -6);
        }
        Edges.stays("nothing, no PLATE", Edges::bare, x -> x.back(1), -6);
    }

    static void p54_withoutAPlateAndWithoutPlies() {
        PlyStacker x = Edges.bare();
        Edges.due("back(0)", x.back(0), 0);
        Edges.types(x, 1, 0, 7, 2);
        Edges.due("count(3)", x.count(3), 1);
        Edges.due("the TAPE stays", x.count(5), Edges.PENDING.length());
        x = Edges.empty();
        x.image(0);
        x.put(0, 0, 0);
        Edges.due("back(0)", x.back(0), 0);
        Edges.types(x);
        Edges.due("count(3)", x.count(3), 0);
        Edges.due("an IMAGE without PLIES is one", x.even(), 15);
    }

    static void p54_theFaultStays() {
        PlyStacker x = Edges.busy();
        x.back(0);
        Edges.due("fault(0)", x.fault(0), 2);
        Edges.due("fault(1)", x.fault(1), 11);
    }

    // ---- 36, 37, 55 ----

    private static long compared(PlyStacker x, int which, int k, int l) {
        return which == 36 ? x.partOf(k, l) : which == 37 ? x.common(k, l) : x.alike(k, l);
    }

    private static void noSuchImages(int which) {
        Edges.refusedOutside("k", Edges::busy, (x, k) -> compared(x, which, k, 0), -2, 0, 2);
        Edges.refusedOutside("l", Edges::busy, (x, l) -> compared(x, which, 0, l), -2, 0, 2);
        Edges.refusedOutside("k, nothing", Edges::busy, (x, k) -> compared(x, which, k, 1), -2, 0, 2);
        Edges.refusedOutside("l, nothing", Edges::none, (x, l) -> compared(x, which, 1, l), -2, 0, 2);
    }

    private static void nothingThere(int which) {
        for (int k = 0; k < 3; k++) {
            int other = k;
            Edges.stays("the first", Edges::busy, x -> compared(x, which, 1, other), -6);
            Edges.stays("the second", Edges::busy, x -> compared(x, which, other, 1), -6);
            Edges.stays("both", Edges::none, x -> compared(x, which, other, 2), -6);
            Edges.stays("both", Edges::uneven, x -> compared(x, which, 0, other), -6);
        }
        Edges.due("no PLATE is wanted", compared(Edges.bare(), which, 0, 0) < 0 ? 1 : 0, 0);
    }

    /** IMAGE 0 has 0 1 7 2, IMAGE 1 and IMAGE 2 what two acts leave. */
    private static Edges.Maker images(Edges.Call one, Edges.Call two) {
        return () -> {
            PlyStacker x = Edges.uneven();
            x.image(0);
            one.on(x);
            x.image(1);
            x.back(0);
            two.on(x);
            x.image(2);
            return x;
        };
    }

    private static void compare(int which, Edges.Maker maker, int k, int l, long want) {
        Edges.stays("compared " + k + " " + l, maker, x -> compared(x, which, k, l), want);
    }

    static void p36_noSuchImages() {
        noSuchImages(36);
    }

    static void p36_oneHasNothing() {
        nothingThere(36);
    }

    static void p36_noneLeftOutAndAll() {
        Edges.Maker maker = images(x -> x.room(8), x -> x.keep(1) + x.drop(0));
        compare(36, maker, 0, 0, 1);
        compare(36, maker, 0, 1, 1);
        compare(36, maker, 1, 0, 1);
        compare(36, maker, 2, 0, 1);
        compare(36, maker, 0, 2, 0);
        compare(36, maker, 2, 2, 1);
    }

    static void p36_byTypesNotByAngles() {
        // 0 1 7 2: a flat PLY of the other KIND, alone and behind one that is there
        Edges.Maker maker = images(x -> x.keep(1) + x.put(1, 1, 0) + x.drop(0), x -> x.keep(1) + x.put(1, 1, 1));
        compare(36, maker, 1, 0, 0);
        compare(36, maker, 2, 0, 0);
        maker = images(x -> x.keep(4), x -> x.keep(4) + x.put(1, 0, 3) + x.drop(0));
        compare(36, maker, 1, 0, 1);
        compare(36, maker, 2, 0, 0);
    }

    static void p36_inTheirOrderByTypes() {
        Edges.Maker maker = images(x -> x.keep(0b1010), x -> x.keep(0b1010) + x.swap(0, 1));
        compare(36, maker, 1, 0, 1);
        compare(36, maker, 2, 0, 0);
        maker = images(x -> x.turn(3, 3), x -> x.drop(3));
        compare(36, maker, 1, 0, 0);
        compare(36, maker, 2, 0, 1);
        compare(36, maker, 2, 1, 1);
        maker = images(x -> x.put(0, 0, 0), x -> x.put(4, 0, 0));
        compare(36, maker, 1, 0, 0);
        compare(36, maker, 0, 1, 1);
        compare(36, maker, 0, 2, 1);
        compare(36, maker, 1, 2, 0);
    }

    static void p37_noSuchImages() {
        noSuchImages(37);
    }

    static void p37_oneHasNothing() {
        nothingThere(37);
    }

    static void p37_fromNoneToEight() {
        Edges.Maker maker = images(x -> x.keep(1) + x.turn(0, 3), x -> x.keep(1) + x.drop(0));
        compare(37, maker, 0, 1, 0);
        compare(37, maker, 0, 2, 0);
        compare(37, maker, 2, 2, 0);
        compare(37, maker, 0, 0, 4);
        PlyStacker x = Edges.full();
        x.image(0);
        x.upset();
        x.image(1);
        Edges.due("all of eight", x.common(0, 0), 8);
        Edges.due("turned over", x.common(0, 1), 7);
        x.back(0);
        x.drop(7);
        x.image(1);
        Edges.due("all but the last", x.common(0, 1), 7);
        Edges.due("all but the last", x.common(1, 0), 7);
    }

    static void p37_byTypesNotByAngles() {
        Edges.Maker maker = images(x -> x.keep(1) + x.put(1, 1, 0) + x.drop(0), x -> x.keep(1) + x.put(1, 1, 1));
        compare(37, maker, 0, 1, 0);
        compare(37, maker, 0, 2, 1);
        compare(37, maker, 1, 2, 0);
    }

    static void p37_inTheirOrderNotInOnePiece() {
        // 0 1 7 2 with 0 2: both ends; with 2 7 1 0: one of them; with 7 0 2 1: two that are not neighbours
        Edges.Maker maker = images(x -> x.keep(9), x -> x.swap(0, 3) + x.swap(1, 2));
        compare(37, maker, 0, 1, 2);
        compare(37, maker, 1, 0, 2);
        compare(37, maker, 0, 2, 1);
        maker = images(x -> x.swap(0, 2) + x.swap(1, 2) + x.swap(2, 3), x -> x.room(8));
        compare(37, maker, 0, 1, 2);
        compare(37, maker, 2, 1, 2);
    }

    static void p55_asManyPlies() {
        // a PLY of TYPE 0 more or less must not be taken for none
        Edges.Maker maker = images(x -> x.keep(1), x -> x.keep(1) + x.drop(0));
        compare(55, maker, 1, 2, 0);
        compare(55, maker, 2, 1, 0);
        maker = images(x -> x.keep(1), x -> x.keep(1) + x.put(0, 0, 0));
        compare(55, maker, 1, 2, 0);
        compare(55, maker, 2, 1, 0);
        compare(55, maker, 2, 2, 1);
    }

    static void p55_noSuchImages() {
        noSuchImages(55);
    }

    static void p55_oneHasNothing() {
        nothingThere(55);
    }

    static void p55_asManyOfEachInWhateverOrder() {
        Edges.Maker maker = images(x -> x.become(0, 23), x -> x.put(0, 0, 0));
        compare(55, maker, 0, 1, 1);
        compare(55, maker, 0, 2, 0);
        compare(55, maker, 2, 0, 0);
        maker = images(x -> x.put(0, 0, 0), x -> x.put(0, 0, 1));
        compare(55, maker, 1, 2, 0);
        maker = images(x -> x.keep(1) + x.drop(0), x -> x.keep(8) + x.drop(0));
        compare(55, maker, 1, 2, 1);
        compare(55, maker, 0, 1, 0);
        maker = images(x -> x.turn(0, 3), x -> x.room(8));
        compare(55, maker, 0, 1, 0);
        compare(55, maker, 0, 2, 1);
    }

    // ---- 56, 57 ----

    static void p56_thereIsNone() {
        Edges.stays("none", Edges::uneven, x -> x.undo(), -5);
        Edges.stays("none", Edges::empty, x -> x.undo(), -5);
        PlyStacker x = acted(1);
        Edges.due("the only one", x.undo(), 0);
        Edges.due("none then", x.undo(), -5);
        Edges.due("ROOM", x.count(0), 3);
    }

    static void p56_nothingElse() {
        Edges.leavesElse("undo()", Edges::busy, x -> x.undo());
        PlyStacker x = Edges.busy();
        x.undo();
        Edges.due("KINDS", x.count(1), 2);
        Edges.due("LINES", x.count(4), 7);
    }

    static void p56_noPlate() {
        Edges.noPlate(x -> x.undo());
        PlyStacker x = acted(2);
        x.plate();
        Edges.due("the PLATE is gone", x.undo(), -2);
    }

    static void p56_eachOfThirty() {
        PlyStacker x = acted(30);
        x.room(1);
        for (int k = 29; k >= 0; k--) {
            Edges.due("undo()", x.undo(), k);
            Edges.due("ROOM", x.count(0), k == 0 ? 3 : 7 - k % 2);
        }
        Edges.due("undo()", x.undo(), -5);
    }

    static void p56_aRefusedActIsNoAct() {
        PlyStacker x = Edges.busy();
        x.swap(0, 0);
        x.turn(0, 3);
        x.put(9, 0, 0);
        x.drop(4);
        x.become(0, 24);
        x.keep(15);
        x.room(5);
        x.whirl(4);
        Edges.due("undo()", x.undo(), 3);
        Edges.types(x, 7, 1, 0, 2, 4);
        Edges.due("undo()", x.undo(), 2);
        Edges.due("ROOM", x.count(0), 3);
        Edges.due("undo()", x.undo(), 1);
        Edges.types(x, 0, 1, 7, 2, 4);
        Edges.due("undo()", x.undo(), 0);
        Edges.types(x, 0, 1, 7, 2);
    }

    static void p57_noneOneAndThirty() {
        Edges.stays("none", Edges::uneven, x -> x.anew(), 0);
        Edges.stays("none", Edges::empty, x -> x.anew(), 0);
        for (int acts : new int[] {1, 2, 29, 30}) {
            PlyStacker x = acted(acts);
            Edges.due("anew()", x.anew(), acts);
            Edges.due("count(3)", x.count(3), 0);
            Edges.due("ROOM", x.count(0), 3);
            Edges.due("anew()", x.anew(), 0);
            Edges.due("undo()", x.undo(), -5);
            Edges.due("an act again", x.room(1), 0);
        }
        PlyStacker x = Edges.busy();
        Edges.due("anew()", x.anew(), 4);
        Edges.types(x, 0, 1, 7, 2);
    }

    static void p57_nothingElse() {
        Edges.leavesElse("anew()", Edges::busy, x -> x.anew());
        PlyStacker x = Edges.busy();
        x.anew();
        Edges.due("KINDS", x.count(1), 2);
        Edges.due("LINES", x.count(4), 7);
        Edges.due("ROOM", x.count(0), 3);
        Edges.due("an act again", x.swap(0, 1), 0);
        Edges.due("acts", x.count(3), 1);
        Edges.due("undo()", x.undo(), 0);
        Edges.types(x, 0, 1, 7, 2);
    }

    static void p57_noPlate() {
        Edges.noPlate(x -> x.anew());
        PlyStacker x = acted(2);
        x.plate();
        Edges.due("the PLATE is gone", x.anew(), -2);
    }

    public static void main(String[] args) {
        Edges.run(BoundaryActsTest.class, 36, 37, 42, 43, 44, 45, 46, 47, 48, 49, 50, 51, 52, 53, 54, 55, 56, 57);
    }
}
