import java.util.ArrayList;
import java.util.List;

/** Boundaries of promises 1 to 6: the TAPE, the TEXT (Terms I), FAULTS, counts. */
public final class BoundaryTextTest {
    private static final String REST = " two 0 three 0 four 0 limit 1;";
    private static final String TINY = " one 1" + REST;
    private static final String ROOM = "plate room 8;";
    private static final String EIGHT = ROOM + Edges.AA + Edges.plies("aa flat", "aa flat", "aa flat", "aa flat",
        "aa flat", "aa flat", "aa flat", "aa flat");

    private static PlyStacker fed(String text) {
        PlyStacker x = new PlyStacker();
        Feeder.feed(x, text);
        return x;
    }

    /** A TEXT without a FAULT. */
    private static PlyStacker good(String text, int lines) {
        PlyStacker x = fed(text);
        Edges.due("plate() of " + text, x.plate(), lines);
        Edges.due("fault(0) of " + text, x.fault(0), 0);
        Edges.due("fault(1) of " + text, x.fault(1), -1);
        Edges.due("count(4) of " + text, x.count(4), lines);
        Edges.due("count(5)", x.count(5), 0);
        return x;
    }

    private static void bad(int fault, int place, String text) {
        PlyStacker x = fed(text);
        Edges.due("plate() of " + text, x.plate(), -4);
        Edges.due("fault(0) of " + text, x.fault(0), fault);
        Edges.due("fault(1) of " + text, x.fault(1), place);
        Edges.due("count(5)", x.count(5), 0);
        Edges.due("no PLATE", x.even(), -2);
    }

    /** A TEXT with a FAULT where ^ stands. */
    private static void faulty(int fault, String marked) {
        int place = marked.indexOf('^');
        bad(fault, place, marked.substring(0, place) + marked.substring(place + 1));
    }

    private static String kinds(int n) {
        StringBuilder out = new StringBuilder();
        for (int k = 0; k < n; k++) out.append("kind ").append((char) ('a' + k)).append(TINY);
        return out.toString();
    }

    // ---- 1 ----

    static void p01_newObjectHasNoPlate() {
        PlyStacker x = new PlyStacker();
        for (int what = 0; what <= 5; what++) Edges.due("count(" + what + ")", x.count(what), 0);
        long[] wantPlate = {x.kind(0, 0), x.ply(0, 0), x.even(), x.warp(), x.twist(), x.run(0), x.likes(),
            x.factor(0, 0, 0, 0), x.modulus(0, 0), x.orders(0), x.order(0, 0, 0), x.rank(0), x.best(0, 0), x.bestBy(0, 0),
            x.nearest(0), x.nearestAt(0), x.unlike(0), x.thinner(1, 0), x.thin(1, 0, 0), x.blend(0, 1), x.blends(0, 1),
            x.comes(0, 1, 1), x.step(0, 1, 0), x.frail(0, 0, 0), x.frailSet(0, 0, 0), x.carries(0), x.worst(0),
            x.spared(0, 0, 0), x.exchanges(0, 0), x.many(0, 0), x.swap(0, 1), x.turn(0, 0), x.put(0, 0, 0), x.drop(0),
            x.become(0, 0), x.keep(1), x.room(1), x.whirl(1), x.upset(), x.turned(0), x.image(0), x.undo(), x.anew()};
        for (int k = 0; k < wantPlate.length; k++) Edges.due("call " + k + " without a PLATE", wantPlate[k], -2);
        long[] tellNoSuch = {x.stiff(0, 0, 0), x.strain(0, 0, 0, 0, 0), x.bend(0, 0, 0, 0, 0), x.lost(0, 0)};
        for (long told : tellNoSuch) Edges.due("told without a PLATE", told, Edges.NO_SUCH);
        Edges.due("an IMAGE has nothing", x.back(0), -6);
    }

    static void p01_oneObjectDoesNotSeeAnother() {
        PlyStacker one = Edges.busy();
        PlyStacker two = new PlyStacker();
        Edges.due("the other's PLATE", two.even(), -2);
        Edges.due("the other's TAPE", two.count(5), 0);
        Edges.due("the other's FAULT", two.fault(0), 0);
        Edges.due("the other's IMAGE", two.back(0), -6);
        Edges.due("its own", one.count(2), 4);
    }

    static void p01_the511thAnd512thCallAnswer() {
        String text = ROOM + Edges.AA + "ply aa rise;";
        PlyStacker x = Edges.none();
        int calls = 0;
        for (int[] n : Feeder.numbers(text)) {
            x.feed(n[0], n[1], n[2], n[3], n[4]);
            calls++;
        }
        x.end(text.length());
        Edges.due("plate()", x.plate(), 3);
        calls += 2;
        for (int acts = 0; acts < 30; acts++) {
            Edges.due("room", x.room(7 - acts % 2), 0);
            calls++;
        }
        for (; calls < 510; calls++) Edges.due("room", x.room(1), -5);
        Edges.due("call 511", x.count(3), 30);
        Edges.due("call 512", x.undo(), 29);
    }

    // ---- 2 ----

    private static PlyStacker taped(int bytes) {
        PlyStacker x = Edges.busy();
        x.end(0);
        for (int k = 0; k < bytes; k += 20) x.feed(0x20202020, 0x20202020, 0x20202020, 0x20202020, 0x2020200a);
        x.end(bytes);
        return x;
    }

    static void p02_noMoreThan600Bytes() {
        for (int size : new int[] {0, 1, 579, 580}) {
            PlyStacker x = taped(size);
            Edges.due("feed at " + size, x.feed(0, 0, 0, 0, 0), size + 20);
            Edges.due("count(5)", x.count(5), size + 20);
        }
        for (int size : new int[] {581, 582, 599, 600}) {
            Edges.stays("feed at " + size, () -> taped(size), x -> x.feed(-1, 0, 1, Edges.MAX, Edges.MIN), -1);
        }
    }

    static void p02_thirtyTimesTwentyBytes() {
        PlyStacker x = Edges.none();
        for (int k = 1; k <= 30; k++) Edges.due("feed " + k, x.feed(k, k, k, k, k), 20 * k);
        Edges.due("feed 31", x.feed(0, 0, 0, 0, 0), -1);
        Edges.due("count(5)", x.count(5), 600);
        x.plate();
        Edges.due("feed when it is empty again", x.feed(0, 0, 0, 0, 0), 20);
    }

    static void p02_fourBytesOfEachNumberTheHighestFirst() {
        for (int place = 0; place < 20; place++) {
            for (int odd : new int[] {0, 1, 127, 128, 255}) {
                int[] n = {0x20202020, 0x20202020, 0x20202020, 0x20202020, 0x20202020};
                int shift = 24 - place % 4 * 8;
                n[place / 4] = n[place / 4] & ~(255 << shift) | odd << shift;
                PlyStacker x = Edges.none();
                x.feed(n[0], n[1], n[2], n[3], n[4]);
                Edges.due("plate()", x.plate(), -4);
                Edges.due("byte " + odd, x.fault(1), place);
            }
        }
    }

    static void p02_comeBehindTheTape() {
        PlyStacker x = Edges.none();
        x.feed(0x706c6174, 0x65202020, 0x20202020, 0x20202020, 0x20202020);
        x.end(5);
        Edges.due("feed at 5", x.feed(0x20726f6f, 0x6d20333b, 0x20202020, 0x20202020, 0x20202020), 25);
        Edges.due("plate()", x.plate(), 1);
        Edges.due("ROOM", x.count(0), 3);
    }

    // ---- 3 ----

    static void p03_notSoMany() {
        for (int size : new int[] {0, 1, 20, 599, 600}) {
            Edges.due("end(" + size + ")", taped(size).end(size), size);
            Edges.stays("end at its end", () -> taped(size), x -> x.end(size), size);
            for (int bad : new int[] {size + 1, size + 2, Edges.MAX}) {
                Edges.stays("end(" + bad + ") of " + size, () -> taped(size), x -> x.end(bad), -1);
            }
        }
        PlyStacker x = taped(20);
        Edges.due("end(19)", x.end(19), 19);
        Edges.due("count(5)", x.count(5), 19);
        Edges.due("end(20) then", x.end(20), -1);
        Edges.due("count(5)", x.count(5), 19);
    }

    static void p03_belowZero() {
        for (int size : new int[] {0, 20, 600}) {
            for (int bad : new int[] {-1, -2, -size - 1, Edges.MIN}) {
                Edges.stays("end(" + bad + ")", () -> taped(size), x -> x.end(bad), -1);
            }
            PlyStacker x = taped(size);
            Edges.due("end(0)", x.end(0), 0);
            Edges.due("count(5)", x.count(5), 0);
        }
        PlyStacker x = taped(20);
        Edges.due("end(1)", x.end(1), 1);
        Edges.due("end(0)", x.end(0), 0);
        Edges.due("end(1) then", x.end(1), -1);
    }

    static void p03_firstBytesAlone() {
        PlyStacker x = fed("plate room 12345;");
        Edges.due("end(12)", x.end(12), 12);
        Feeder.feed(x, ";");
        Edges.due("the rest is gone", x.plate(), 1);
        Edges.due("ROOM", x.count(0), 1);
        x = fed("plate room 1;!");
        x.end(13);
        Edges.due("the last byte is gone", x.plate(), 1);
        x = fed("plate room 1;!");
        x.end(14);
        Edges.due("the last byte stays", x.plate(), -4);
    }

    // ---- 4 ----

    static void p04_noLines() {
        for (String text : new String[] {"", " ", "\n", " \n \n  "}) {
            PlyStacker x = good(text, 0);
            Edges.due("no PLATE", x.even(), -2);
            x = Edges.busy();
            x.end(0);
            Feeder.feed(x, text);
            Edges.due("plate()", x.plate(), 0);
            for (int what = 0; what <= 5; what++) Edges.due("count(" + what + ")", x.count(what), 0);
            Edges.due("there is none then", x.undo(), -2);
            Edges.due("IMAGES stay", x.back(0), 0);
        }
    }

    static void p04_oneLineAndTwelve() {
        good("plate room 1;", 1);
        good("plate room 1;kind a" + TINY, 2);
        String most = ROOM + Edges.AA + Edges.BB + Edges.CC + Edges.plies("aa flat", "aa rise", "aa fall", "aa cross",
            "bb flat", "bb rise", "bb fall");
        good(most, 11);
        Edges.types(good(most + "ply cc cross;", 12), 0, 1, 2, 3, 4, 5, 6, 11);
    }

    static void p04_inPlaceOfAnotherAndNoActs() {
        PlyStacker x = Edges.busy();
        Edges.due("plate()", x.plate(), 3);
        int[] counts = {6, 1, 1, 0, 3, 0};
        for (int what = 0; what <= 5; what++) Edges.due("count(" + what + ")", x.count(what), counts[what]);
        Edges.types(x, 2);
        Edges.due("no act", x.undo(), -5);
        Edges.due("kind(1, 0)", x.kind(1, 0), -2);
        PlyStacker spent = Edges.acted(Edges.uneven(), 30);
        Feeder.feed(spent, Edges.PENDING);
        spent.plate();
        Edges.due("an act again", spent.room(1), 0);
        Edges.due("count(3)", spent.count(3), 1);
    }

    static void p04_tapeIsEmptyThen() {
        PlyStacker x = fed("plate room 4;");
        Edges.due("plate()", x.plate(), 1);
        Edges.due("count(5)", x.count(5), 0);
        Edges.due("again", x.plate(), 0);
        Feeder.feed(x, "plate room 9;");
        Edges.due("with a FAULT", x.plate(), -4);
        Edges.due("count(5)", x.count(5), 0);
        Edges.due("again", x.plate(), 0);
    }

    /** Acts, and IMAGES with and without them; no plate() has had a FAULT. */
    private static PlyStacker unfaulted() {
        PlyStacker x = Edges.uneven();
        x.image(2);
        x.swap(0, 1);
        x.image(0);
        x.room(5);
        return x;
    }

    static void p04_aFaultLeavesAllElse() {
        String[] texts = {"!", "plate", "plate room 9;", ROOM + "kind", "plate room 1;" + Edges.CC + "ply cc rise;plate",
            "plate room 1;" + kinds(4), "plate room 1;kind x one 7 two 7 three 7 four 7 limit 7;ply x cross;ply y flat;",
            EIGHT + "ply aa flat;"};
        for (String text : texts) {
            Edges.Call call = x -> {
                x.end(0);
                Feeder.feed(x, text);
                return x.plate();
            };
            Edges.due("plate()", call.on(Edges.busy()), -4);
            Edges.leavesPlates("a FAULT", Edges::busy, call);
            Edges.leavesPlates("the first FAULT", BoundaryTextTest::unfaulted, call);
            Edges.leavesPlates("a FAULT", Edges::bare, call);
            Edges.leavesPlates("a FAULT", Edges::none, call);
        }
    }

    static void p04_roomOneToEight() {
        for (int room = 1; room <= 8; room++) {
            Edges.due("ROOM", good("plate room " + room + ";", 1).count(0), room);
            Edges.due("ROOM", good("plate room 000" + room + ";", 1).count(0), room);
        }
        for (String room : new String[] {"0", "00", "9", "10", "11", "18", "80", "257", "65537", "4294967297",
            "18446744073709551617", "99999999999999999999999999999999"}) {
            bad(2, 11, "plate room " + room + ";");
        }
    }

    /** A text of one KIND whose NUMBERS are these. */
    private static String numbered(String[] values) {
        return ROOM + "kind k one " + values[0] + " two " + values[1] + " three " + values[2] + " four " + values[3]
            + " limit " + values[4] + ";";
    }

    private static void numberBounds(int what, int least, int most) {
        String[] values = {"5", "6", "7", "8", "9"};
        for (int value : new int[] {least, least + 1, most - 1, most}) {
            values[what] = "" + value;
            Edges.due("NUMBER " + what, good(numbered(values), 2).kind(0, what), value);
            values[what] = "0000000000000000000000" + value;
            Edges.due("NUMBER " + what, good(numbered(values), 2).kind(0, what), value);
        }
        values[what] = "";
        int place = numbered(values).indexOf("  ") + 1;
        if (what == 4) place = numbered(values).length() - 1;
        List<String> beyond = new ArrayList<>(List.of("" + (most + 1), "" + (most + 2), "0" + (most + 1), "" + 10 * most,
            "" + (256 + least + 1000), "" + (65536 + most), "4294967297", "4294967295", "2147483648", "2147483647",
            "18446744073709551617", "100000000000000000000000000"));
        if (least > 0) beyond.addAll(List.of("" + (least - 1), "000"));
        for (String value : beyond) {
            values[what] = value;
            bad(2, place, numbered(values));
        }
    }

    static void p04_oneFrom1To99() {
        numberBounds(0, 1, 99);
    }

    static void p04_twoFrom0To99() {
        numberBounds(1, 0, 99);
    }

    static void p04_threeFrom0To99() {
        numberBounds(2, 0, 99);
    }

    static void p04_fourFrom0To99() {
        numberBounds(3, 0, 99);
    }

    static void p04_limitFrom1To999() {
        numberBounds(4, 1, 999);
    }

    static void p04_noneToThreeKindsAsTheyStand() {
        for (int n = 0; n <= 3; n++) Edges.due("KINDS", good(ROOM + kinds(n), 1 + n).count(1), n);
        PlyStacker x = good(ROOM + Edges.CC + Edges.AA + Edges.BB, 4);
        Edges.due("KIND 0", x.kind(0, 0), 9);
        Edges.due("KIND 1", x.kind(1, 0), 20);
        Edges.due("KIND 2", x.kind(2, 0), 8);
        bad(3, ROOM.length() + kinds(3).length(), ROOM + kinds(4));
    }

    static void p04_noneToEightPliesTheLowestFirst() {
        String[] angles = {"aa flat", "aa rise", "aa fall", "aa cross", "aa cross", "aa fall", "aa rise", "aa flat"};
        int[] types = {0, 1, 2, 3, 3, 2, 1, 0};
        StringBuilder text = new StringBuilder(ROOM + Edges.AA);
        Edges.types(good(text.toString(), 2));
        for (int n = 1; n <= 8; n++) {
            text.append("ply ").append(angles[n - 1]).append(';');
            Edges.types(good(text.toString(), 2 + n), java.util.Arrays.copyOf(types, n));
        }
        bad(3, text.length(), text + "ply aa flat;");
    }

    static void p04_plyOfAKindToldAhead() {
        Edges.types(good(ROOM + Edges.AA + "ply aa cross;", 3), 3);
        Edges.types(good(ROOM + Edges.AA + "ply aa cross;" + Edges.BB + "ply bb flat;ply aa rise;", 6), 3, 4, 1);
        faulty(2, ROOM + "ply ^aa cross;" + Edges.AA);
        faulty(2, ROOM + Edges.AA + "ply ^bb cross;" + Edges.BB);
        faulty(2, ROOM + Edges.AA + Edges.BB + "ply bb flat;ply ^cc cross;" + Edges.CC);
    }

    static void p04_namesOfOneToSixLetters() {
        for (String name : new String[] {"a", "z", "az", "abcde", "zzzzzz", "abcdef"}) {
            Edges.types(good(ROOM + "kind " + name + TINY + "ply " + name + " fall;", 3), 2);
        }
        for (String name : new String[] {"abcdefg", "aaaaaaa", "abcdefgh", "abcdefabcdefabcdefabcdefabcdef"}) {
            faulty(2, ROOM + "kind ^" + name + TINY);
            faulty(2, ROOM + "kind " + name.substring(0, 6) + TINY + "ply ^" + name + " fall;");
        }
    }

    static void p04_sixHundredBytes() {
        String told = ROOM + Edges.AA + "ply aa rise;";
        String wide = told.replace("ply", " ".repeat(600 - told.length()) + "ply");
        Edges.due("bytes", wide.length(), 600);
        Edges.types(good(wide, 3), 1);
        String late = told.replace("rise;", "\n".repeat(600 - told.length()) + "rise;");
        Edges.types(good(late, 3), 1);
        bad(1, 599, wide.substring(0, 599));
        bad(1, 599, wide.substring(0, 599) + "!");
        bad(1, 600, wide.substring(0, 599) + " ");
        bad(1, 0, "a".repeat(600));
        bad(1, 0, "1".repeat(600));
        bad(2, 11, "plate room " + "9".repeat(589));
        Edges.due("ROOM", good("plate room " + "0".repeat(587) + "8;", 1).count(0), 8);
        bad(1, 600, "plate room " + "0".repeat(588) + "8");
    }

    static void p04_noBlanksAndMany() {
        String told = "plate room8;kind k one1two2three3four4limit5;ply k rise;";
        Edges.types(good(told, 3), 1);
        Edges.types(good(told.replace(";", "\n;\n ").replaceAll("(\\d)", " $1 ").replace(" ", " \n\n "), 3), 1);
    }

    // ---- 5: when it tells, and what ----

    static void p05_aheadOfAnyPlate() {
        Edges.range("fault ahead of any", Edges::none, (x, what) -> x.fault(what), -1, 0, 0, -1);
        PlyStacker x = fed("plate room 9;");
        Edges.due("fed alone", x.fault(0), 0);
        Edges.due("fed alone", x.fault(1), -1);
        x.plate();
        Edges.due("then", x.fault(0), 2);
        Edges.due("then", x.fault(1), 11);
    }

    static void p05_anotherWhat() {
        Edges.range("fault", Edges::busy, (x, what) -> x.fault(what), -1, 0, 2, 11);
        Edges.range("fault", Edges::uneven, (x, what) -> x.fault(what), -1, 0, 0, -1);
    }

    static void p05_ofTheLatestPlate() {
        PlyStacker x = Edges.busy();
        Edges.due("a FAULT", x.fault(0), 2);
        x.plate();
        Edges.due("0 without", x.fault(0), 0);
        Edges.due("NONE without", x.fault(1), -1);
        Feeder.feed(x, "!");
        x.plate();
        Edges.due("a FAULT at 0", x.fault(0), 1);
        Edges.due("a FAULT at 0", x.fault(1), 0);
        Feeder.feed(x, " ?");
        x.plate();
        Edges.due("another", x.fault(1), 1);
        x.room(8);
        x.back(0);
        Edges.due("acts and IMAGES aside", x.fault(1), 1);
        x.plate();
        Edges.due("0 LINES", x.fault(0), 0);
        Edges.due("0 LINES", x.fault(1), -1);
    }

    // ---- 5: TOKENS ----

    private static boolean isBlank(int b) {
        return b == 32 || b == 10;
    }

    private static boolean isDigit(int b) {
        return b >= '0' && b <= '9';
    }

    private static boolean isLetter(int b) {
        return b >= 'a' && b <= 'z';
    }

    static void p05_everyByteAlone() {
        for (int b = 0; b < 256; b++) {
            if (isBlank(b)) good("" + (char) b, 0);
            else bad(1, 0, "" + (char) b);
        }
    }

    static void p05_everyByteBehindALine() {
        for (int b = 0; b < 256; b++) {
            if (isBlank(b)) good(ROOM + (char) b, 1);
            else bad(1, 13, ROOM + (char) b);
        }
    }

    static void p05_everyByteBehindANumber() {
        for (int b = 0; b < 256; b++) {
            String text = "plate room 3" + (char) b + ";";
            if (isBlank(b)) good(text, 1);
            else if (isDigit(b)) bad(2, 11, text);
            else bad(1, b == ';' ? 13 : 12, text);
        }
    }

    static void p05_everyByteAheadOfANumber() {
        for (int b = 0; b < 256; b++) {
            String text = "plate room " + (char) b + "3;";
            if (isBlank(b) || b == '0') good(text, 1);
            else bad(isDigit(b) ? 2 : 1, 11, text);
        }
    }

    static void p05_everyByteInAName() {
        for (int b = 0; b < 256; b++) {
            String text = ROOM + "kind a" + (char) b + "c" + TINY + "ply a" + (char) b + "c rise;";
            if (isLetter(b)) Edges.types(good(text, 3), 1);
            else bad(1, isBlank(b) ? 20 : 19, text);
        }
    }

    static void p05_everyByteInAWord() {
        for (int b = 0; b < 256; b++) {
            String text = "pla" + (char) b + "te room 8;";
            bad(1, 0, text);
            if (isBlank(b)) good("plate" + (char) b + "room 8;", 1);
            else bad(1, isLetter(b) ? 0 : 5, "plate" + (char) b + "room 8;");
        }
    }

    static void p05_theLongestToken() {
        bad(1, 0, "plateroom 8;");
        bad(1, 6, "plate rooms 8;");
        bad(1, 0, "plates room 8;");
        bad(2, 11, "plate room 88;");
        bad(1, 13, "plate room 8 8;");
        bad(1, 13, ROOM + "kindk" + TINY);
        bad(1, 13, ROOM + "k ind k" + TINY);
        good("plate room8;", 1);
        bad(1, 6, "plate roo8m;");
        bad(2, 24, ROOM + "kind k one 100" + REST);
        bad(1, 26, ROOM + "kind k one 1 00" + REST);
    }

    // ---- 5: the first FAULT ----

    static void p05_theFirstByItsPlace() {
        bad(2, 11, "plate room 9!;");
        bad(1, 12, "plate room 8!9;kind kind");
        bad(2, 24, ROOM + "kind k one 0" + REST + "!");
        bad(2, 18, ROOM + "kind plate one 0" + REST);
        bad(2, 18, ROOM + "kind toolong one 100 plate");
        bad(3, ROOM.length() + kinds(3).length(), ROOM + kinds(3) + "kind plate one 0 !");
        bad(2, ROOM.length() + kinds(2).length() + 5, ROOM + kinds(2) + "kind a one 1" + REST + kinds(3));
        bad(1, ROOM.length() + kinds(3).length(), ROOM + kinds(3) + "!kind");
    }

    static void p05_ofOnePlaceTheLeast() {
        // where ; is due a word can't stand, be it the word of a fourth kind or of a ninth ply
        String open = kinds(3).substring(0, kinds(3).length() - 1);
        bad(1, ROOM.length() + open.length() + 1, ROOM + open + " kind d" + TINY);
        String eight = EIGHT.substring(0, EIGHT.length() - 1);
        bad(1, eight.length() + 1, eight + " ply aa flat;");
        bad(3, EIGHT.length() + 1, EIGHT + " ply aa flat;");
        // where a word or a number of the LINE is due, no word is a NAME
        faulty(1, ROOM + "kind a ^toolong 1" + REST);
        faulty(1, ROOM + "kind a one ^toolong" + REST);
        faulty(1, ROOM + Edges.AA + "ply aa ^toolong;");
        faulty(1, ROOM + "kind ^100" + TINY);
    }

    static void p05_theEndsPlace() {
        String text = "plate room 8;kind k one 1 two 2 three 3 four 4 limit 5;ply k rise;";
        int lines = 0;
        for (int n = 1; n <= text.length(); n++) {
            char last = text.charAt(n - 1);
            boolean inside = n < text.length() && Character.isLetterOrDigit(last)
                && Character.isLetterOrDigit(text.charAt(n));
            if (inside || last == ' ') continue;
            if (last == ';') {
                lines++;
                good(text.substring(0, n), lines);
                good(text.substring(0, n) + " \n", lines);
            } else {
                bad(1, n, text.substring(0, n));
                bad(1, n + 1, text.substring(0, n) + "\n");
                bad(1, n + 3, text.substring(0, n) + " \n ");
            }
        }
        Edges.due("LINES", lines, 3);
    }

    static void p05_anEndInsideAToken() {
        String text = "plate room 8;kind abc one 12 two 2 three 3 four 4 limit 345;ply abc rise;";
        for (int n = 1; n < text.length(); n++) {
            if (!isLetter(text.charAt(n - 1)) || !isLetter(text.charAt(n))) continue;
            int start = n;
            while (start > 0 && isLetter(text.charAt(start - 1))) start--;
            boolean named = text.startsWith("abc", start);
            boolean told = text.startsWith("ply abc", start - 4 < 0 ? 0 : start - 4);
            if (named && told) bad(2, start, text.substring(0, n));
            else bad(1, named ? n : start, text.substring(0, n));
        }
        bad(1, text.indexOf("12") + 1, text.substring(0, text.indexOf("12") + 1));
        bad(1, text.indexOf("345") + 2, text.substring(0, text.indexOf("345") + 2));
    }

    static void p05_plateBehindTheFirstLine() {
        faulty(1, ROOM + "^plate room 8;");
        faulty(1, ROOM + "^plate");
        faulty(1, ROOM + Edges.AA + "^plate room 8;");
        faulty(1, ROOM + Edges.AA + "ply aa flat;^plate room 8;");
        faulty(1, ROOM + "^room 8;");
        faulty(1, EIGHT + "^plate room 8;");
    }

    static void p05_anotherWordAheadOfPlate() {
        faulty(1, "^kind k" + TINY);
        faulty(1, "^ply k flat;");
        faulty(1, "^room 8;");
        faulty(1, "\n ^plat room 8;");
        faulty(1, "^8 plate room 8;");
        faulty(1, "^; plate room 8;");
        faulty(1, " ^x plate room 8;");
    }

    static void p05_aSignTooManyAndTooFew() {
        faulty(1, ROOM + "^;");
        faulty(1, "plate room 8^kind k" + TINY);
        faulty(1, "plate room 8 ^plate");
        faulty(1, "plate ^;");
        faulty(1, "plate room ^;");
        faulty(1, ROOM + "kind ^;");
        faulty(1, ROOM + "kind k ^;");
        faulty(1, ROOM + "kind k one ^;");
        faulty(1, ROOM + "kind k one 1 ^;");
        faulty(1, ROOM + Edges.AA + "ply ^;");
        faulty(1, ROOM + Edges.AA + "ply aa ^;");
        faulty(1, ROOM + Edges.AA + "ply aa rise ^ply aa rise;");
        faulty(1, ROOM + Edges.AA + "ply aa rise;^;");
        faulty(1, ROOM + Edges.AA + "^aa rise;");
    }

    static void p05_wordsWhereNumbersAndNumbersWhereWordsBelong() {
        faulty(1, "plate room ^one;");
        faulty(1, "plate ^8 room;");
        faulty(1, ROOM + "kind ^1" + TINY);
        faulty(1, ROOM + "kind k ^1 one two");
        faulty(1, ROOM + "kind k one ^one");
        faulty(1, ROOM + "kind k ^two 1 one 1");
        faulty(1, ROOM + "kind k one 1 ^three 0 two 0 four 0 limit 1;");
        faulty(1, ROOM + "kind k one 1 two 0 ^four 0 three 0 limit 1;");
        faulty(1, ROOM + "kind k one 1 two 0 three 0 ^limit 1;");
        faulty(1, ROOM + "kind k one 1 two 0 three 0 four 0 ^one 1;");
        faulty(1, ROOM + "kind k one 1 two 0 three 0 four 0 limit 1 ^limit 1;");
        faulty(1, ROOM + "kind k one 1 two 0 three 0 four 0 limit 1 ^1;");
        faulty(1, ROOM + Edges.AA + "ply ^1 rise;");
        faulty(1, ROOM + Edges.AA + "ply aa ^1;");
        faulty(1, ROOM + Edges.AA + "ply aa rise ^1;");
    }

    static void p05_anAngleThatIsNone() {
        String[] angles = {"flat", "rise", "fall", "cross"};
        for (int angle = 0; angle < 4; angle++) {
            Edges.types(good(ROOM + Edges.AA + "ply aa " + angles[angle] + ";", 3), angle);
            faulty(1, ROOM + Edges.AA + "ply aa ^" + angles[angle] + "s;");
            faulty(1, ROOM + Edges.AA + "ply aa ^" + angles[angle].substring(1) + ";");
            faulty(1, ROOM + Edges.AA + "ply aa ^x" + angles[angle].substring(1) + ";");
        }
        faulty(1, ROOM + Edges.AA + "ply aa ^aa;");
        faulty(1, ROOM + Edges.AA + "ply aa ^plate;");
        faulty(1, ROOM + Edges.AA + "ply aa ^abcdefg;");
    }

    static void p05_anyWordMayStandForAName() {
        String[] words = {"room", "one", "two", "three", "four", "limit", "flat", "rise", "fall", "cross", "plates", "plat",
            "kinds", "kin", "pl", "plys", "plyply"};
        for (String word : words) {
            Edges.types(good(ROOM + "kind " + word + TINY + "ply " + word + " rise;", 3), 1);
            faulty(2, ROOM + "ply ^" + word + " rise;");
        }
    }

    static void p05_aNameNoneOfPlateKindPly() {
        for (String word : new String[] {"plate", "kind", "ply"}) {
            faulty(2, ROOM + "kind ^" + word + TINY);
            faulty(2, ROOM + "kind ^" + word);
            faulty(2, ROOM + Edges.AA + "kind ^" + word + TINY);
            faulty(2, ROOM + Edges.AA + "ply ^" + word + " flat;");
        }
    }

    static void p05_noNameTwice() {
        faulty(2, ROOM + Edges.AA + "kind ^aa" + TINY);
        faulty(2, ROOM + Edges.AA + Edges.BB + "kind ^aa" + TINY);
        faulty(2, ROOM + Edges.AA + Edges.BB + "kind ^bb" + TINY);
        faulty(2, ROOM + Edges.AA + "ply aa rise;kind ^aa" + TINY);
        for (String near : new String[] {"a", "aaa", "ab", "ba"}) {
            PlyStacker x = good(ROOM + Edges.AA + "kind " + near + TINY + "ply " + near + " flat;ply aa flat;", 5);
            Edges.types(x, 4, 0);
        }
        PlyStacker x = Edges.uneven();
        Feeder.feed(x, ROOM + Edges.AA);
        Edges.due("told by another TEXT", x.plate(), 2);
    }

    static void p05_aNameNotTold() {
        faulty(2, ROOM + "ply ^aa flat;");
        for (String near : new String[] {"a", "aaa", "ab", "ba", "abcdefg"}) {
            faulty(2, ROOM + Edges.AA + "ply ^" + near + " flat;");
            faulty(2, ROOM + Edges.AA + "ply ^" + near);
        }
        PlyStacker x = Edges.uneven();
        Feeder.feed(x, ROOM + "ply aa flat;");
        Edges.due("told by another TEXT", x.plate(), -4);
        Edges.due("fault(0)", x.fault(0), 2);
        Edges.due("fault(1)", x.fault(1), 17);
    }

    static void p05_aFourthKindAtItsWord() {
        good(ROOM + kinds(3), 4);
        for (String rest : new String[] {"", " ", " d" + TINY, " a" + TINY, " plate", ";", "!", " 1"}) {
            bad(3, ROOM.length() + kinds(3).length(), ROOM + kinds(3) + "kind" + rest);
        }
        String between = ROOM + kinds(2) + "ply a flat;" + kinds(3).substring(kinds(2).length()) + "ply c flat;";
        good(between, 6);
        bad(3, between.length(), between + "kind d" + TINY);
    }

    static void p05_aNinthPlyAtItsWord() {
        good(EIGHT, 10);
        for (String rest : new String[] {"", " ", " aa flat;", " zz flat;", " kind", ";", "!", " 1"}) {
            bad(3, EIGHT.length(), EIGHT + "ply" + rest);
        }
        good(EIGHT + Edges.BB, 11);
        bad(3, EIGHT.length() + Edges.BB.length(), EIGHT + Edges.BB + "ply bb flat;");
    }

    // ---- 6 ----

    static void p06_others() {
        Edges.range("count", Edges::busy, (x, what) -> x.count(what), -1, 0, 5, 2, 4, 4, 7, Edges.PENDING.length());
        Edges.range("count", Edges::none, (x, what) -> x.count(what), -1, 0, 0, 0, 0, 0, 0, 0);
        Edges.range("count", Edges::bare, (x, what) -> x.count(what), -1, 0, 0, 0, 0, 0, 0, Edges.PENDING.length());
        Edges.range("count", Edges::empty, (x, what) -> x.count(what), -1, 0, 2, 1, 0, 0, 2, 0);
        Edges.range("count", Edges::full, (x, what) -> x.count(what), -1, 0, 8, 2, 8, 0, 11, 0);
    }

    static void p06_actsFromNoneTo30() {
        PlyStacker x = Edges.uneven();
        for (int acts = 0; acts < 30; acts++) {
            Edges.due("acts", x.count(3), acts);
            x.room(6 + acts % 2);
        }
        Edges.due("acts", x.count(3), 30);
        x.room(1);
        Edges.due("acts", x.count(3), 30);
        for (int acts = 29; acts >= 0; acts--) {
            x.undo();
            Edges.due("acts", x.count(3), acts);
        }
        x.undo();
        Edges.due("acts", x.count(3), 0);
    }

    static void p06_pliesFromNoneTo8() {
        PlyStacker x = Edges.empty();
        for (int n = 0; n < 8; n++) {
            Edges.due("PLIES", x.count(2), n);
            x.put(0, 0, 0);
        }
        Edges.due("PLIES", x.count(2), 8);
        x.put(0, 0, 0);
        Edges.due("PLIES", x.count(2), 8);
        Edges.due("LINES stay", x.count(4), 2);
    }

    public static void main(String[] args) {
        Edges.run(BoundaryTextTest.class, 1, 2, 3, 4, 5, 6);
    }
}
