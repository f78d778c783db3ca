/** For each promise of the document ordinary inputs, the edges that it names, and wrong inputs. */
public final class PromisesTest {
    private static final long NO_SUCH = PlyStacker.NO_SUCH;
    private static final String AA = "kind aa one 20 two 10 three 3 four 5 limit 40;";
    private static final String BB = "kind bb one 8 two 0 three 1 four 2 limit 7;";
    private static final String CC = "kind cc one 9 two 2 three 0 four 1 limit 999;";

    private static int promise = 0;
    private static int asked = 0;
    private static int wrong = 0;

    private static void due(String what, long got, long want) {
        asked++;
        if (got != want) {
            wrong++;
            System.out.println("promise " + promise + ": " + what + " answered " + got + ", due is " + want);
        }
    }

    private static String plies(String... plies) {
        StringBuilder out = new StringBuilder();
        for (String ply : plies) out.append("ply ").append(ply).append(';');
        return out.toString();
    }

    private static PlyStacker told(int room, String kinds, String... plies) {
        return Feeder.plate("plate room " + room + ";" + kinds + plies(plies));
    }

    /** Two KINDS, four PLIES, neither FLAT nor STRAIGHT. */
    private static PlyStacker uneven() {
        return told(3, AA + BB, "aa flat", "aa rise", "bb cross", "aa fall");
    }

    /** MIRRORED: flat, cross, cross, flat. */
    private static PlyStacker mirrored() {
        return told(2, "kind u one 10 two 4 three 1 four 2 limit 50;", "u flat", "u cross", "u cross", "u flat");
    }

    private static PlyStacker empty() {
        return told(2, AA);
    }

    private static PlyStacker none() {
        return new PlyStacker();
    }

    private static void types(PlyStacker x, int... types) {
        due("count(2)", x.count(2), types.length);
        for (int k = 0; k < types.length; k++) due("ply(" + k + ", 2)", x.ply(k, 2), types[k]);
    }

    private static void text(String text, int lines, int fault, int place) {
        PlyStacker x = new PlyStacker();
        Feeder.feed(x, text);
        due("plate() of " + text, x.plate(), lines);
        due("fault(0) of " + text, x.fault(0), fault);
        due("fault(1) of " + text, x.fault(1), place);
        due("count(5)", x.count(5), 0);
        due("count(4)", x.count(4), Math.max(lines, 0));
    }

    /** The place of a mark, told as ^ in the text, and the text without it. */
    private static void faulty(int fault, String marked) {
        int place = marked.indexOf('^');
        text(marked.substring(0, place) + marked.substring(place + 1), -4, fault, place);
    }

    private static void p1() {
        PlyStacker x = none();
        for (int what = 0; what <= 5; what++) due("count", x.count(what), 0);
        due("even()", x.even(), -2);
        due("NONE", PlyStacker.NONE, -1);
        due("NO_SUCH", PlyStacker.NO_SUCH, Long.MIN_VALUE);
    }

    private static void p2() {
        PlyStacker x = none();
        for (int k = 1; k <= 30; k++) due("feed", x.feed(0x20202020, -1, 0, 1, 2), 20 * k);
        due("feed too much", x.feed(0, 0, 0, 0, 0), -1);
        due("count(5)", x.count(5), 600);
        x.end(581);
        due("feed at 581", x.feed(0, 0, 0, 0, 0), -1);
        due("count(5)", x.count(5), 581);
        x.end(580);
        due("feed at 580", x.feed(0, 0, 0, 0, 0), 600);
        x.end(4);
        due("plate of blanks", x.plate(), 0);
        x = none();
        // "plat" "e ro" "om 1" ";pla" "te  ": the highest byte of each number is the first
        x.feed(0x706c6174, 0x6520726f, 0x6f6d2031, 0x3b706c61, 0x74652020);
        due("plate()", x.plate(), -4);
        due("fault(1)", x.fault(1), 13);
    }

    private static void p3() {
        PlyStacker x = none();
        due("end(0)", x.end(0), 0);
        due("end(1)", x.end(1), -1);
        x.feed(0, 0, 0, 0, 0);
        due("end(21)", x.end(21), -1);
        due("end(-1)", x.end(-1), -1);
        due("end(min)", x.end(Integer.MIN_VALUE), -1);
        due("end(max)", x.end(Integer.MAX_VALUE), -1);
        due("count(5)", x.count(5), 20);
        due("end(20)", x.end(20), 20);
        due("end(7)", x.end(7), 7);
        due("end(8)", x.end(8), -1);
        due("feed", x.feed(0, 0, 0, 0, 0), 27);
    }

    private static void p4() {
        text("", 0, 0, -1);
        text(" \n \n", 0, 0, -1);
        text("plate room 1;", 1, 0, -1);
        text("plateroom8;", -4, 1, 0);
        text("plate room8;", 1, 0, -1);
        text(" plate\nroom 00000000000000000000000008 ; kind abcdef one0099two0three99four99limit 999;"
            + "ply\n\nabcdef cross;", 3, 0, -1);
        text("plate room 3;" + AA + BB + CC + plies("aa flat", "bb rise", "cc fall", "aa cross", "aa flat", "aa flat",
            "aa flat", "cc flat"), 12, 0, -1);
        text("plate room 3;kind room one 1 two 0 three 0 four 0 limit 1;ply room rise;", 3, 0, -1);
        text("plate room 3;kind one one 1 two 0 three 0 four 0 limit 1;", 2, 0, -1);

        text("plate room 3;kind az one 19 two 0 three 0 four 0 limit 1;kind za one 90 two 0 three 0 four 0 limit 1;"
            + "ply za flat;ply az flat;", 5, 0, -1);

        PlyStacker x = uneven();
        due("lines", x.count(4), 7);
        x.room(5);
        Feeder.feed(x, "plate room 9;");
        due("plate() with a fault", x.plate(), -4);
        due("TAPE", x.count(5), 0);
        due("all else stays: acts", x.count(3), 1);
        due("all else stays: ROOM", x.count(0), 5);
        types(x, 0, 1, 7, 2);
        Feeder.feed(x, "plate room 4;" + CC + "ply cc rise;");
        due("in place of another", x.plate(), 3);
        due("no acts", x.count(3), 0);
        due("ROOM", x.count(0), 4);
        due("KINDS", x.count(1), 1);
        types(x, 1);
        due("plate() of nothing", x.plate(), 0);
        due("none then", x.even(), -2);
        due("none then", x.room(3), -2);
        for (int what = 0; what <= 5; what++) due("count", x.count(what), 0);
    }

    private static void p5() {
        PlyStacker x = none();
        due("fault(0) ahead", x.fault(0), 0);
        due("fault(1) ahead", x.fault(1), -1);
        due("fault(2)", x.fault(2), -1);
        due("fault(-1)", x.fault(-1), -1);
        Feeder.feed(x, "plate room 9;");
        x.plate();
        due("fault(0)", x.fault(0), 2);
        due("fault(1)", x.fault(1), 11);
        due("fault(2)", x.fault(2), -1);
        x.plate();
        due("fault(0) of the latest", x.fault(0), 0);
        due("fault(1) of the latest", x.fault(1), -1);

        faulty(1, "^A");
        faulty(1, "^kind u one 1 two 0 three 0 four 0 limit 1;");
        faulty(1, "^;");
        faulty(1, "^5");
        faulty(1, "^plates room 1;");
        faulty(1, "plate^");
        faulty(1, "plate ^4;");
        faulty(1, "plate ^roo 1;");
        faulty(1, "plate room^");
        faulty(1, "plate room ^");
        faulty(1, "plate room ^;");
        faulty(1, "plate room ^x;");
        faulty(2, "plate room ^0;");
        faulty(2, "plate room ^9;");
        faulty(2, "plate room ^99999999999999999999999;");
        faulty(1, "plate room 8^");
        faulty(1, "plate room 8 \n^");
        faulty(1, "plate room 8 ^kind;");
        faulty(1, "plate room 8;^plate room 8;");
        faulty(1, "plate room 8;^room;");
        faulty(1, "plate room 8;^;");
        faulty(1, "plate room 8;\n ^\t");
        faulty(1, "plate room 8;^\u00e9");
        faulty(1, "plate room 8;^\0");
        for (char sign : "`{/:<_\r".toCharArray()) {
            faulty(1, "plate room 8;^" + sign);
            faulty(1, "plate room 8^" + sign + ";");
            faulty(1, "plate room^" + sign + "8;");
        }
        faulty(1, "plate room 8;^kinds u one 1");
        faulty(1, "plate room 8;kind ^7 one 1");
        faulty(1, "plate room 8;kind ^");
        faulty(2, "plate room 8;kind ^abcdefg one 1 two 0 three 0 four 0 limit 1;");
        faulty(2, "plate room 8;kind ^plate one 1 two 0 three 0 four 0 limit 1;");
        faulty(2, "plate room 8;kind ^kind one 1 two 0 three 0 four 0 limit 1;");
        faulty(2, "plate room 8;kind ^ply one 1 two 0 three 0 four 0 limit 1;");
        faulty(2, "plate room 8;" + AA + BB + "kind ^aa");
        faulty(1, "plate room 8;kind u ^two 1");
        faulty(1, "plate room 8;kind u one ^two");
        faulty(2, "plate room 8;kind u one ^0 two 0 three 0 four 0 limit 1;");
        faulty(2, "plate room 8;kind u one ^100 two 0 three 0 four 0 limit 1;");
        faulty(2, "plate room 8;kind u one 99 two ^100 three 0 four 0 limit 1;");
        faulty(2, "plate room 8;kind u one 1 two 0 three ^100 four 0 limit 1;");
        faulty(2, "plate room 8;kind u one 1 two 0 three 0 four ^100 limit 1;");
        faulty(2, "plate room 8;kind u one 1 two 0 three 0 four 0 limit ^0;");
        faulty(2, "plate room 8;kind u one 1 two 0 three 0 four 0 limit ^1000;");
        faulty(1, "plate room 8;kind u one 1 two 0 three 0 ^limit 4;");
        faulty(1, "plate room 8;kind u one 1 two 0 three 0 four 0 limit 1^");
        faulty(3, "plate room 8;" + AA + BB + CC + "^kind aa one 1");
        faulty(3, "plate room 8;" + AA + BB + CC + "^kind ; A");
        faulty(2, "plate room 8;ply ^aa flat;");
        faulty(2, "plate room 8;" + AA + "ply ^a flat;");
        faulty(2, "plate room 8;" + AA + "ply ^aaa flat;");
        faulty(2, "plate room 8;" + AA + "ply ^ply flat;");
        faulty(2, "plate room 8;ply ^aa flat;" + AA);
        faulty(1, "plate room 8;" + AA + "ply ^; A");
        faulty(1, "plate room 8;" + AA + "ply aa ^aa;");
        faulty(1, "plate room 8;" + AA + "ply aa ^0;");
        faulty(1, "plate room 8;" + AA + "ply aa ^;");
        faulty(1, "plate room 8;" + AA + "ply aa ^flats;");
        faulty(1, "plate room 8;" + AA + "ply aa flat ^ply aa flat;");
        faulty(1, "plate room 8;" + AA + "ply aa flat^");
        String eight = "plate room 8;" + AA + plies("aa flat", "aa flat", "aa flat", "aa flat", "aa flat", "aa flat",
            "aa flat", "aa flat");
        faulty(3, eight + "^ply aa flat;");
        faulty(3, eight + "^ply zz");
        faulty(1, eight + "^A");
        p5words();
    }

    /** Each letter of each word of a text put wrong, the NAME aside. */
    private static void misspelled(String text) {
        boolean named = false;
        for (int k = 0; k < text.length(); k++) {
            boolean letter = text.charAt(k) >= 'a' && text.charAt(k) <= 'z';
            int start = k;
            while (letter && start > 0 && Character.isLetter(text.charAt(start - 1))) start--;
            if (!letter || text.startsWith("nam", start)) continue;
            named = true;
            text(text.substring(0, k) + "x" + text.substring(k + 1), -4, 1, start);
        }
        due("words", named ? 1 : 0, 1);
    }

    private static void p5words() {
        misspelled("plate room 1;kind nam one 1 two 2 three 3 four 4 limit 5;ply nam flat;ply nam rise;"
            + "ply nam fall;ply nam cross;");
        String told = "plate room 1;kind nam one 1 two 2 three 3 four 4 limit 5;";
        for (String name : new String[] {"xam", "nxm", "nax", "na", "name", "n"}) {
            faulty(2, told + "ply ^" + name + " flat;");
            text(told + "kind " + name + " one 1 two 2 three 3 four 4 limit 5;", 3, 0, -1);
        }
    }

    private static void p6() {
        PlyStacker x = uneven();
        int[] due = {3, 2, 4, 0, 7, 0};
        for (int what = 0; what < 6; what++) due("count(" + what + ")", x.count(what), due[what]);
        due("count(6)", x.count(6), -1);
        due("count(-1)", x.count(-1), -1);
        x.put(4, 1, 0);
        x.room(7);
        x.feed(0, 0, 0, 0, 0);
        int[] then = {7, 2, 5, 2, 7, 20};
        for (int what = 0; what < 6; what++) due("count(" + what + ")", x.count(what), then[what]);
    }

    private static void p7() {
        PlyStacker x = uneven();
        int[] aa = {20, 10, 3, 5, 40, 3};
        int[] bb = {8, 0, 1, 2, 7, 1};
        for (int what = 0; what < 6; what++) {
            due("kind(0, " + what + ")", x.kind(0, what), aa[what]);
            due("kind(1, " + what + ")", x.kind(1, what), bb[what]);
            due("kind(2, " + what + ")", x.kind(2, what), -2);
            due("kind(-1, " + what + ")", x.kind(-1, what), -2);
        }
        due("kind(0, 6)", x.kind(0, 6), -2);
        due("kind(0, -1)", x.kind(0, -1), -2);
        x.put(0, 1, 3);
        due("kind(1, 5)", x.kind(1, 5), 2);
        due("kind(0, 0)", none().kind(0, 0), -2);
        due("kind(0, 5)", empty().kind(0, 5), 0);
    }

    private static void p8() {
        PlyStacker x = uneven();
        int[][] due = {{0, 0, 0, -3, 28}, {0, 1, 1, -1, 4}, {1, 3, 7, 1, 4}, {0, 2, 2, 3, 28}};
        for (int k = 0; k < 4; k++) {
            for (int what = 0; what < 5; what++) due("ply(" + k + ", " + what + ")", x.ply(k, what), due[k][what]);
            due("ply(" + k + ", 5)", x.ply(k, 5), -2);
            due("ply(" + k + ", -1)", x.ply(k, -1), -2);
        }
        due("ply(4, 0)", x.ply(4, 0), -2);
        due("ply(-1, 3)", x.ply(-1, 3), -2);
        due("ply(0, 0)", empty().ply(0, 0), -2);
        due("ply(0, 3)", none().ply(0, 3), -2);
        x.drop(0);
        due("ply(1, 3) of three", x.ply(1, 3), 0);
        due("ply(1, 4) of three", x.ply(1, 4), 1);
        due("ply(2, 4) of three", x.ply(2, 4), 13);
    }

    private static void p9() {
        PlyStacker x = uneven();
        long[][] due = {{152, 38, 0, 38, 112, 0, 0, 0, 55}, {-112, 22, -40, 22, 8, -40, -40, -40, 19},
            {3008, 632, -240, 632, 1888, -240, -240, -240, 940}};
        for (int what = 0; what < 3; what++) {
            for (int cell = 0; cell < 9; cell++) {
                due("stiff(" + what + ") at " + cell, x.stiff(what, cell / 3, cell % 3), due[what][cell]);
            }
        }
        for (int bad : new int[] {-1, 3, Integer.MAX_VALUE, Integer.MIN_VALUE}) {
            due("stiff", x.stiff(bad, 0, 0), NO_SUCH);
            due("stiff", x.stiff(0, bad, 0), NO_SUCH);
            due("stiff", x.stiff(0, 0, bad), NO_SUCH);
        }
        due("stiff(2, 1, 1)", empty().stiff(2, 1, 1), 0);
        due("stiff(0, 0, 0)", none().stiff(0, 0, 0), NO_SUCH);
    }

    /** Two PLIES whose B is 0 at all places but one: 0 0 (0), 1 1 (1), 0 1 (2), 2 2 (3), 0 2 (4). */
    private static PlyStacker bowed(int where) {
        String[] a = {"10 two 4 three 0 four 0", "10 two 4 three 0 four 0", "10 two 1 three 0 four 6",
            "10 two 1 three 0 four 0", "10 two 1 three 0 four 0"};
        String[] b = {"13 two 0 three 1 four 1", "13 two 0 three 1 four 1", "9 two 1 three 1 four 3",
            "9 two 1 three 1 four 1", "10 two 3 three 0 four 0"};
        String angle = where == 0 ? " cross" : where == 4 ? " rise" : " flat";
        return told(8, "kind a one " + a[where] + " limit 1;kind b one " + b[where] + " limit 1;",
            "a" + angle, "b" + angle);
    }

    /** D is 0 at 0 2, A is not. */
    private static PlyStacker askew() {
        return told(8, "kind a one 9 two 1 three 1 four 1 limit 1;kind b one 9 two 7 three 1 four 1 limit 1;",
            "a rise", "b fall", "b fall", "a rise");
    }

    private static void p10() {
        for (int where = 0; where < 5; where++) due("bowed " + where, bowed(where).even(), where == 4 ? 0 : 12);
        due("D alone is straight", askew().even(), 3);
        due("even()", uneven().even(), 8);
        due("even()", mirrored().even(), 15);
        due("even()", empty().even(), 15);
        due("even()", none().even(), -2);
        due("mirrored, flat", told(8, AA, "aa rise", "aa cross", "aa rise").even(), 3);
        due("balanced, straight in its plane alone", told(8, AA, "aa rise", "aa fall", "aa flat").even(), 8);
        due("straight, balanced", told(8, AA, "aa flat", "aa cross").even(), 12);
        // each KIND balances itself: bb has no number two, so it is straight however it lies
        due("straight, not balanced", told(8, BB, "bb rise", "bb flat").even(), 4);
        due("mirrored, not balanced", told(8, AA + CC, "aa rise", "cc fall", "aa rise").even(), 3);
        // rise and fall of two KINDS of like numbers: flat and straight, but not mirrored
        String like = "kind a one 9 two 2 three 1 four 1 limit 1;kind b one 9 two 2 three 1 four 1 limit 1;";
        due("flat, not mirrored", told(8, like, "a rise", "b rise").even(), 2);
        due("straight by two KINDS, not balanced", told(8, like, "a rise", "b fall", "b fall", "a rise").even(), 3);
        due("straight by two KINDS", told(8, like, "a rise", "b fall", "b fall", "a rise", "b fall", "a rise",
            "a rise", "b fall").even(), 6);
        due("all but mirrored", told(8, AA, "aa rise", "aa fall", "aa fall", "aa rise", "aa fall", "aa rise",
            "aa rise", "aa fall").even(), 14);
    }

    private static void p11() {
        due("warp()", uneven().warp(), 343);
        long[] bows = {16, 16, 16, 4, 8};
        for (int where = 0; where < 5; where++) due("bowed " + where, bowed(where).warp(), bows[where]);
        due("warp()", mirrored().warp(), 0);
        due("warp()", empty().warp(), 0);
        due("warp()", none().warp(), -2);
    }

    private static void p12() {
        due("twist()", uneven().twist(), 480);
        due("A alone", askew().twist(), 24);
        due("twist()", mirrored().twist(), 0);
        due("twist()", told(8, AA, "aa fall").twist(), 40);
        due("twist()", empty().twist(), 0);
        due("twist()", none().twist(), -2);
    }

    private static void p13() {
        PlyStacker x = told(1, AA + BB, "aa flat", "bb rise", "aa rise", "aa fall", "bb fall", "aa flat");
        due("run(0)", x.run(0), 2);
        due("run(1)", x.run(1), 1);
        due("run(2)", x.run(2), -2);
        due("run(-1)", x.run(-1), -2);
        x.turn(5, 2);
        due("run(0)", x.run(0), 3);
        due("run(1)", x.run(1), 3);
        due("run(0)", empty().run(0), 0);
        due("run(1)", empty().run(1), -1);
        due("run(0)", none().run(0), -2);
        due("run(1)", uneven().run(1), 0);
    }

    private static void p14() {
        due("likes()", told(1, AA + BB, "aa flat", "bb flat", "aa flat", "aa fall", "bb fall").likes(), 3);
        due("likes()", uneven().likes(), 0);
        due("likes()", empty().likes(), 0);
        due("likes()", none().likes(), -2);
    }

    private static final int[] BAD_LOADS = {1000, -1000, Integer.MAX_VALUE, Integer.MIN_VALUE};

    /** FLAT: with one 2 DET of A is 0, with one 26 DET of D is. */
    private static PlyStacker slack(int one) {
        return told(3, "kind a one 1 two 0 three 1 four 0 limit 1;kind b one " + one
            + " two 0 three 0 four 0 limit 1;", "a flat", "b flat", "a flat");
    }

    /** FLAT, A: 68 32 0, 32 68 0, 0 0 42. */
    private static PlyStacker slanted(int limit) {
        return told(3, "kind d one 20 two 10 three 3 four 5 limit " + limit + ";", "d rise", "d fall", "d fall",
            "d rise");
    }

    private static void p15() {
        PlyStacker x = mirrored();
        long[][] due = {{11, 10}, {-1, 10}, {1, 2}};
        long[][] greatest = {{-999, 40}, {999, 40}, {-333, 4}};
        for (int i = 0; i < 3; i++) {
            for (int what = 0; what < 2; what++) {
                due("strain " + i, x.strain(48, 0, 6, i, what), due[i][what]);
                due("strain " + i, x.strain(-999, 999, -999, i, what), greatest[i][what]);
            }
        }
        due("strain of nothing", x.strain(0, 0, 0, 2, 0), 0);
        due("strain of nothing", x.strain(0, 0, 0, 2, 1), 1);
        for (int bad : BAD_LOADS) {
            due("load", x.strain(bad, 0, 0, 0, 0), NO_SUCH);
            due("load", x.strain(0, bad, 0, 0, 0), NO_SUCH);
            due("load", x.strain(0, 0, bad, 0, 0), NO_SUCH);
        }
        for (int bad : new int[] {-1, 3}) due("i", x.strain(0, 0, 0, bad, 0), NO_SUCH);
        for (int bad : new int[] {-1, 2}) due("what", x.strain(0, 0, 0, 0, bad), NO_SUCH);
        due("not flat", uneven().strain(1, 0, 0, 0, 0), NO_SUCH + 1);
        due("not flat, none such", uneven().strain(1, 0, 0, 3, 0), NO_SUCH);
        due("empty", empty().strain(1, 0, 0, 0, 1), NO_SUCH + 1);
        due("DET of A is 0", slack(2).strain(1, 0, 0, 0, 0), NO_SUCH + 1);
        due("DET of D is 0", slack(26).strain(0, 0, 12, 2, 0), 1);
        due("no PLATE", none().strain(0, 0, 0, 0, 0), NO_SUCH);
        // a DET below 0: the lower number is above 0 all the same
        PlyStacker odd = told(1, "kind a one 1 two 0 three 1 four 0 limit 1;", "a flat");
        due("strain 2", odd.strain(0, 0, 3, 2, 0), -6);
        due("strain 2", odd.strain(0, 0, 3, 2, 1), 1);
    }

    private static void p16() {
        PlyStacker x = mirrored();
        long[][] due = {{1, 8}, {-1, 64}, {1, 2}};
        for (int i = 0; i < 3; i++) {
            for (int what = 0; what < 2; what++) due("bend " + i, x.bend(111, 0, 96, i, what), due[i][what]);
        }
        due("bend of nothing", x.bend(0, 0, 0, 0, 0), 0);
        due("bend of nothing", x.bend(0, 0, 0, 0, 1), 1);
        for (int bad : BAD_LOADS) {
            due("moment", x.bend(bad, 0, 0, 0, 0), NO_SUCH);
            due("moment", x.bend(0, bad, 0, 0, 0), NO_SUCH);
            due("moment", x.bend(0, 0, bad, 0, 0), NO_SUCH);
        }
        for (int bad : new int[] {-1, 3}) due("i", x.bend(0, 0, 0, bad, 0), NO_SUCH);
        for (int bad : new int[] {-1, 2}) due("what", x.bend(0, 0, 0, 0, bad), NO_SUCH);
        due("not flat", uneven().bend(1, 0, 0, 0, 0), NO_SUCH + 1);
        due("empty", empty().bend(1, 0, 0, 0, 1), NO_SUCH + 1);
        due("DET of D is 0", slack(26).bend(1, 0, 0, 0, 0), NO_SUCH + 1);
        due("DET of A is 0", slack(2).bend(0, 0, 12, 2, 0), -1);
        due("no PLATE", none().bend(0, 0, 0, 0, 0), NO_SUCH);
    }

    private static void factorDue(PlyStacker x, int n0, int n1, int n2, long... due) {
        for (int what = 0; what < 3; what++) due("factor " + what, x.factor(n0, n1, n2, what), due[what]);
    }

    private static void p17() {
        factorDue(mirrored(), 48, 0, 6, 500, 11, 0);
        factorDue(mirrored(), 0, -48, 0, 500, 11, 1);
        PlyStacker x = slanted(40);
        factorDue(x, 100, 0, 0, 80, 1, 0);
        factorDue(x, -100, 0, 0, 80, 1, 0);
        factorDue(x, 100, 0, 42, 40, 1, 0);
        factorDue(x, 100, 0, -42, 40, 1, 1);
        factorDue(x, 0, 0, 42, 80, 1, 0);
        factorDue(x, 0, 0, 0, -1, -1, -1);
        factorDue(x, 36, -36, 0, -1, -1, -1);
        due("the least LIMIT", told(3, AA + BB, "aa flat", "bb flat", "aa flat").factor(1, 0, 0, 2), 1);
        due("what", x.factor(0, 0, 0, 3), -2);
        due("what", x.factor(0, 0, 0, -1), -2);
        for (int bad : BAD_LOADS) {
            due("load", x.factor(bad, 0, 0, 0), -2);
            due("load", x.factor(0, bad, 0, 0), -2);
            due("load", x.factor(0, 0, bad, 0), -2);
        }
        due("not flat", uneven().factor(0, 0, 0, 0), -6);
        due("not flat, none such", uneven().factor(0, 0, 0, 3), -2);
        due("DET of A is 0", slack(2).factor(0, 0, 0, 0), -6);
        due("empty", empty().factor(0, 0, 0, 2), -6);
        due("no PLATE", none().factor(0, 0, 0, 0), -2);
    }

    private static void p18() {
        PlyStacker x = uneven();
        due("modulus(0, 0)", x.modulus(0, 0), 3895);
        due("modulus(0, 1)", x.modulus(0, 1), 28);
        due("modulus(1, 0)", x.modulus(1, 0), 205);
        due("modulus(1, 1)", x.modulus(1, 1), 2);
        for (int bad : new int[] {-1, 2}) {
            due("axis", x.modulus(bad, 0), -2);
            due("what", x.modulus(0, bad), -2);
        }
        PlyStacker odd = told(1, "kind a one 1 two 2 three 0 four 0 limit 1;", "a flat");
        due("minor below 0", odd.modulus(0, 0), 6);
        due("minor below 0", odd.modulus(0, 1), 1);
        due("DET below 0", odd.modulus(1, 0), -2);
        due("DET below 0", odd.modulus(1, 1), 1);
        PlyStacker zero = told(1, "kind a one 1 two 1 three 0 four 0 limit 1;", "a cross");
        due("DET of 0", zero.modulus(0, 0), 0);
        due("DET of 0", zero.modulus(0, 1), 1);
        due("minor of 0", zero.modulus(1, 0), -6);
        due("minor of 0, none such", zero.modulus(1, 2), -2);
        due("empty", empty().modulus(0, 0), -6);
        due("no PLATE", none().modulus(0, 0), -2);
    }

    private static void p19() {
        int[] square = {6, 2, 2, 2, 6, 2, 2, 2};
        int[] mixed = {24, 0, 0, 0, 8, 0, 0, 0};
        for (int mask = 0; mask < 8; mask++) {
            due("orders(" + mask + ")", mirrored().orders(mask), square[mask]);
            due("orders(" + mask + ")", uneven().orders(mask), mixed[mask]);
            due("orders(" + mask + ")", empty().orders(mask), 1);
            due("orders(" + mask + ")", none().orders(mask), -2);
        }
        due("orders(8)", mirrored().orders(8), -2);
        due("orders(-1)", mirrored().orders(-1), -2);
        for (int where = 0; where < 5; where++) {
            due("bowed " + where, bowed(where).orders(2), 0);
            due("bowed " + where, bowed(where).orders(0), 2);
        }
        due("D alone is straight", askew().orders(4), 0);
        due("D alone is straight", askew().orders(3), 2);
        PlyStacker x = mirrored();
        x.room(1);
        due("RUNS of one", x.orders(0), 2);
        due("RUNS by ANGLE, not by TYPE", told(1, AA + BB, "aa flat", "bb flat").orders(0), 0);
        due("two KINDS of one ANGLE", told(2, AA + BB, "aa flat", "bb flat").orders(0), 2);
        x = told(8, AA + BB, "aa flat", "aa rise", "aa fall", "aa cross", "bb flat", "bb rise", "bb fall", "bb cross");
        due("eight TYPES", x.orders(0), 40320);
        x.undo();
        x.turn(7, 0);
        due("the PLATE has changed", x.orders(0), 20160);
        x.undo();
        due("taken back", x.orders(0), 40320);
        x.room(1);
        due("ROOM has changed", x.orders(0), 13824);
        // the same TYPES with other NUMBERS: what is FLAT must be found anew
        x = told(8, AA + BB, "aa flat", "bb flat");
        due("unlike KINDS", x.orders(2), 0);
        Feeder.feed(x, "plate room 8;" + BB + BB.replace("bb", "cc") + plies("bb flat", "cc flat"));
        x.plate();
        due("like KINDS", x.orders(2), 2);
    }

    private static void p20() {
        PlyStacker x = mirrored();
        int[][] rows = {{0, 0, 3, 3}, {0, 3, 0, 3}, {0, 3, 3, 0}, {3, 0, 0, 3}, {3, 0, 3, 0}, {3, 3, 0, 0}};
        for (int k = 0; k < 6; k++) {
            for (int i = 0; i < 4; i++) due("order(0, " + k + ", " + i + ")", x.order(0, k, i), rows[k][i]);
        }
        for (int i = 0; i < 4; i++) due("order(3, 1, " + i + ")", x.order(3, 1, i), rows[3][i]);
        due("not so many", x.order(0, 6, 0), -1);
        due("not so many", x.order(1, 2, 3), -1);
        due("not so many", x.order(1, Integer.MAX_VALUE, 3), -1);
        due("k", x.order(0, -1, 0), -2);
        due("i", x.order(0, 0, 4), -2);
        due("i", x.order(0, 0, -1), -2);
        due("i, not so many", x.order(0, 6, 4), -2);
        due("mask", x.order(8, 0, 0), -2);
        due("mask", x.order(-1, 0, 0), -2);
        due("none", uneven().order(1, 0, 0), -1);
        due("empty", empty().order(0, 0, 0), -2);
        due("no PLATE", none().order(0, 0, 0), -2);
        x = uneven();
        int[] last = {7, 2, 1, 0};
        for (int i = 0; i < 4; i++) due("order(0, 23, " + i + ")", x.order(0, 23, i), last[i]);
        // a TYPE of the third KIND on top takes the highest bits that a row can have
        x = told(8, AA + BB + CC, "cc cross", "cc cross", "cc cross", "cc cross", "cc cross", "cc cross", "cc cross",
            "aa flat");
        due("order(0, 0, 7)", x.order(0, 0, 7), 11);
        due("order(0, 0, 0)", x.order(0, 0, 0), 0);
        due("rank(0)", x.rank(0), 7);
    }

    private static void p21() {
        due("rank(0)", uneven().rank(0), 1);
        due("rank(1)", uneven().rank(1), -1);
        due("rank(0)", mirrored().rank(0), 2);
        due("rank(7)", mirrored().rank(7), 0);
        due("rank(7)", empty().rank(7), 0);
        due("rank(8)", mirrored().rank(8), -2);
        due("rank(-1)", mirrored().rank(-1), -2);
        due("no PLATE", none().rank(0), -2);
        due("a RUN too long", told(1, AA, "aa flat", "aa flat", "aa rise").rank(0), -1);
    }

    private static void p22() {
        PlyStacker x = uneven();
        int[] due = {1, 7, 7, 0};
        for (int what = 0; what < 4; what++) {
            due("best(0, " + what + ")", x.best(0, what), due[what]);
            due("best(1, " + what + ")", x.best(1, what), -1);
            due("empty", empty().best(7, what), 0);
        }
        due("best(0, 3)", mirrored().best(0, 3), 1);
        due("best(1, 3)", mirrored().best(1, 3), 0);
        due("best(1, 1)", mirrored().best(1, 1), 1);
        due("what", x.best(0, 4), -2);
        due("what", x.best(0, -1), -2);
        due("mask", x.best(8, 0), -2);
        due("mask", x.best(-1, 0), -2);
        due("no PLATE", none().best(0, 0), -2);
    }

    private static void p23() {
        PlyStacker x = uneven();
        long[] due = {3008, 2080, 1228, 0};
        for (int what = 0; what < 4; what++) {
            due("bestBy(0, " + what + ")", x.bestBy(0, what), due[what]);
            due("bestBy(1, " + what + ")", x.bestBy(1, what), -1);
            due("empty", empty().bestBy(7, what), 0);
        }
        due("bestBy(1, 3)", mirrored().bestBy(1, 3), 1);
        due("below 0", told(1, "kind a one 1 two 0 three 9 four 0 limit 1;", "a flat").bestBy(0, 2), -17);
        due("what", x.bestBy(0, 4), -2);
        due("what", x.bestBy(0, -1), -2);
        due("mask", x.bestBy(8, 0), -2);
        due("no PLATE", none().bestBy(0, 0), -2);
    }

    private static void p24() {
        PlyStacker x = mirrored();
        due("nearest(7)", x.nearest(7), 0);
        x.swap(0, 1);
        due("nearest(0)", x.nearest(0), 0);
        due("nearest(1)", x.nearest(1), 2);
        due("nearest(1)", uneven().nearest(1), -1);
        due("a RUN too long", told(1, AA, "aa flat", "aa flat", "aa rise").nearest(0), 2);
        due("no RUN short enough", told(1, AA, "aa flat", "aa flat").nearest(0), -1);
        due("three others", told(1, AA, "aa rise", "aa flat", "aa flat", "aa flat", "aa rise").nearest(0), 4);
        due("nearest(7)", empty().nearest(7), 0);
        due("nearest(8)", x.nearest(8), -2);
        due("nearest(-1)", x.nearest(-1), -2);
        due("no PLATE", none().nearest(0), -2);
    }

    private static void p25() {
        PlyStacker x = mirrored();
        due("nearestAt(0)", x.nearestAt(0), 2);
        due("nearestAt(7)", x.nearestAt(7), 0);
        x.swap(0, 1);
        due("of two the first", x.nearestAt(1), 0);
        due("nearestAt(0)", x.nearestAt(0), 4);
        x.swap(2, 3);
        due("nearestAt(1)", x.nearestAt(1), 1);
        due("nearestAt(1)", uneven().nearestAt(1), -1);
        due("nearestAt(7)", empty().nearestAt(7), 0);
        due("nearestAt(8)", x.nearestAt(8), -2);
        due("no PLATE", none().nearestAt(0), -2);
    }

    private static void p26() {
        due("unlike(0)", uneven().unlike(0), 4);
        due("unlike(1)", uneven().unlike(1), 0);
        due("unlike(0)", mirrored().unlike(0), 3);
        due("unlike(1)", mirrored().unlike(1), 2);
        due("unlike(7)", empty().unlike(7), 1);
        due("unlike(8)", mirrored().unlike(8), -2);
        due("unlike(-1)", mirrored().unlike(-1), -2);
        due("no PLATE", none().unlike(0), -2);
        PlyStacker x = told(8, AA + BB, "aa flat", "aa rise", "aa fall", "aa cross", "bb flat", "bb rise", "bb fall",
            "bb cross");
        due("eight TYPES", x.unlike(0), 458);
        due("asked again", x.unlike(0), 458);
        String far = "kind a one 99 two 99 three 99 four 0 limit 1;kind b one 1 two 99 three 99 four 99 limit 1;"
            + "kind c one 50 two 7 three 3 four 99 limit 1;";
        x = told(8, far, "a flat", "b cross", "c rise", "a cross", "b flat", "c cross", "b rise", "c flat");
        due("three KINDS", x.unlike(0), 2436);
    }

    private static void p27() {
        PlyStacker x = mirrored();
        int[] due = {-2, 4, 2, 2, 1, -2};
        for (int n = 0; n <= 5; n++) due("thinner(" + n + ", 1)", x.thinner(n, 1), due[n]);
        due("thinner(2, 0)", x.thinner(2, 0), 6);
        x.room(1);
        due("thinner(2, 0)", x.thinner(2, 0), 4);
        due("thinner(4, 0)", x.thinner(4, 0), 0);
        due("mask", x.thinner(1, 8), -2);
        due("mask", x.thinner(1, -1), -2);
        due("n", x.thinner(-1, 0), -2);
        due("n", x.thinner(Integer.MAX_VALUE, 0), -2);
        due("empty", empty().thinner(1, 0), -2);
        due("empty", empty().thinner(0, 0), -2);
        due("no PLATE", none().thinner(1, 0), -2);
    }

    private static void p28() {
        PlyStacker x = mirrored();
        due("thin(2, 1, 0)", x.thin(2, 1, 0), 6);
        due("thin(2, 1, 1)", x.thin(2, 1, 1), 9);
        due("thin(2, 1, 2)", x.thin(2, 1, 2), -1);
        due("thin(3, 1, 1)", x.thin(3, 1, 1), 13);
        due("thin(4, 7, 0)", x.thin(4, 7, 0), 15);
        due("thin(1, 0, 3)", x.thin(1, 0, 3), 8);
        due("k", x.thin(1, 0, -1), -2);
        due("k", x.thin(1, 0, Integer.MAX_VALUE), -1);
        due("n", x.thin(0, 0, 0), -2);
        due("n", x.thin(5, 0, 0), -2);
        due("mask", x.thin(1, 8, 0), -2);
        due("no PLATE", none().thin(1, 0, 0), -2);
    }

    /** STRAIGHT, with as many PLIES that rise as fall. */
    private static PlyStacker woven() {
        return told(8, AA, "aa rise", "aa fall", "aa fall", "aa rise", "aa fall", "aa rise", "aa rise", "aa fall");
    }

    private static void p29() {
        PlyStacker x = mirrored();
        due("blend(1, 1)", x.blend(1, 1), 1);
        due("blend(4, 1)", woven().blend(4, 1), 8);
        due("blend(4, 2)", woven().blend(4, 2), 2);
        due("blend(6, 3)", woven().blend(6, 3), 8);
        due("not so itself", uneven().blend(1, 1), -1);
        due("a RUN too long", told(1, AA, "aa flat", "aa flat").blend(0, 1), -1);
        due("empty", empty().blend(7, 1), 0);
        for (int bad : new int[] {0, 4, -1}) due("d", x.blend(0, bad), -2);
        due("mask", x.blend(8, 1), -2);
        due("mask", x.blend(-1, 1), -2);
        due("no PLATE", none().blend(0, 1), -2);
    }

    private static void p30() {
        PlyStacker x = mirrored();
        due("blends(1, 1)", x.blends(1, 1), 4);
        due("blends(1, 2)", x.blends(1, 2), 3);
        due("blends(1, 3)", x.blends(1, 3), 2);
        due("blends(4, 1)", woven().blends(4, 1), 1);
        due("blends(4, 2)", woven().blends(4, 2), 4);
        due("not so itself", uneven().blends(1, 1), -1);
        due("empty", empty().blends(7, 3), 1);
        for (int bad : new int[] {0, 4, -1}) due("d", x.blends(0, bad), -2);
        due("mask", x.blends(8, 1), -2);
        due("no PLATE", none().blends(0, 1), -2);
    }

    private static void p31() {
        PlyStacker x = mirrored();
        due("comes(1, 1, 6)", x.comes(1, 1, 6), 0);
        due("comes(1, 2, 6)", x.comes(1, 2, 6), 1);
        due("comes(1, 1, 15)", x.comes(1, 1, 15), 1);
        due("comes(1, 1, 7)", x.comes(1, 1, 7), 0);
        due("comes(1, 1, 1)", x.comes(1, 1, 1), 1);
        due("not so itself", uneven().comes(1, 1, 1), 0);
        due("not so itself", uneven().comes(1, 1, 15), 0);
        for (int bad : new int[] {0, 16, -1, Integer.MIN_VALUE, Integer.MAX_VALUE}) due("set", x.comes(1, 1, bad), -2);
        for (int bad : new int[] {0, 4}) due("d", x.comes(1, bad, 1), -2);
        due("mask", x.comes(8, 1, 1), -2);
        due("empty", empty().comes(0, 1, 0), -2);
        due("empty", empty().comes(0, 1, 1), -2);
        due("no PLATE", none().comes(0, 1, 1), -2);
    }

    private static void way(PlyStacker x, int mask, int d, int... sets) {
        for (int i = 0; i < sets.length; i++) {
            due("step(" + mask + ", " + d + ", " + i + ")", x.step(mask, d, i), sets[i]);
        }
        due("step behind the last", x.step(mask, d, sets.length), -1);
        due("step far behind", x.step(mask, d, Integer.MAX_VALUE), -1);
        due("step(.., -1)", x.step(mask, d, -1), -2);
    }

    private static void p32() {
        way(mirrored(), 1, 1, 15, 11, 9, 1);
        way(mirrored(), 1, 2, 15, 9, 1);
        way(mirrored(), 0, 3, 15, 1);
        way(woven(), 4, 1, 255);
        // fewest PLIES come ahead of the least set, and so does the shortest way
        way(told(8, AA, "aa rise", "aa fall", "aa flat", "aa rise", "aa fall"), 4, 3, 31, 14, 4);
        way(told(1, AA, "aa flat", "aa rise", "aa cross", "aa fall", "aa cross"), 4, 2, 31, 14, 4);
        way(empty(), 0, 1, 0);
        way(uneven(), 1, 1);
        due("d", mirrored().step(0, 0, 0), -2);
        due("d", mirrored().step(0, 4, 0), -2);
        due("mask", mirrored().step(8, 1, 0), -2);
        due("no PLATE", none().step(0, 1, 0), -2);
    }

    private static void p33() {
        due("at LIMITS", slanted(4).frail(800, 0, 0), 1);
        due("beyond LIMITS", slanted(4).frail(801, 0, 0), 0);
        due("all", slanted(4).frail(0, 0, 0), 4);
        due("DET of 0", slack(2).frail(0, 0, 0), 0);
        due("three", mirrored().frail(999, 0, 0), 3);
        due("not flat", uneven().frail(1, 1, 1), 4);
        due("those LOST aside", told(2, AA + BB, "bb cross", "aa flat").frail(0, 150, 0), 1);
        due("empty", empty().frail(0, 0, 0), 0);
        for (int bad : BAD_LOADS) {
            due("load", mirrored().frail(bad, 0, 0), -2);
            due("load", mirrored().frail(0, bad, 0), -2);
            due("load", mirrored().frail(0, 0, bad), -2);
        }
        due("no PLATE", none().frail(0, 0, 0), -2);
    }

    private static void p34() {
        due("the least", slanted(4).frailSet(800, 0, 0), 1);
        due("as it is", slanted(4).frailSet(801, 0, 0), 0);
        due("all", slanted(4).frailSet(0, 0, 0), 15);
        due("three", mirrored().frailSet(999, 0, 0), 7);
        due("those LOST aside", told(2, AA + BB, "bb cross", "aa flat").frailSet(0, 150, 0), 2);
        due("empty", empty().frailSet(0, 0, 0), 0);
        due("load", mirrored().frailSet(1000, 0, 0), -2);
        due("load", mirrored().frailSet(0, -1000, 0), -2);
        due("load", mirrored().frailSet(0, 0, 1000), -2);
        due("no PLATE", none().frailSet(0, 0, 0), -2);
    }

    private static void p35() {
        for (int axis = 0; axis < 2; axis++) {
            due("carries", slanted(4).carries(axis), 800);
            due("carries", slanted(5).carries(axis), 999);
            due("DET of 0", slack(2).carries(axis), -1);
            due("empty", empty().carries(axis), -1);
            due("no PLATE", none().carries(axis), -2);
        }
        PlyStacker x = told(1, "kind a one 1 two 0 three 0 four 0 limit 1;", "a cross");
        due("not strained", x.carries(0), 999);
        due("strained", x.carries(1), 1);
        due("not flat", uneven().carries(0), 999);
        due("not flat", uneven().carries(1), 358);
        due("axis", x.carries(2), -2);
        due("axis", x.carries(-1), -2);
        String limp = "kind a one 1 two 0 three 0 four 0 limit 1;kind b one 2 two 2 three 0 four 2 limit 999;";
        due("no load but 0", told(2, limp, "a flat", "b cross").carries(0), 0);
    }

    /** IMAGES: 0 has 0 1 7 2, 1 has 0 7, 2 has 7 0. */
    private static PlyStacker imaged() {
        PlyStacker x = uneven();
        x.image(0);
        x.keep(5);
        x.image(1);
        x.swap(0, 1);
        x.image(2);
        return x;
    }

    private static void p36() {
        PlyStacker x = imaged();
        int[][] due = {{1, 0, 0}, {1, 1, 0}, {0, 0, 1}};
        for (int k = 0; k < 3; k++) for (int l = 0; l < 3; l++) due("partOf " + k + l, x.partOf(k, l), due[k][l]);
        x.drop(0);
        x.drop(0);
        x.image(1);
        due("nothing is part of all", x.partOf(1, 0), 1);
        due("all is no part of nothing", x.partOf(0, 1), 0);
        comparing(0);
    }

    private static void p37() {
        PlyStacker x = imaged();
        int[][] due = {{4, 2, 1}, {2, 2, 1}, {1, 1, 2}};
        for (int k = 0; k < 3; k++) for (int l = 0; l < 3; l++) due("common " + k + l, x.common(k, l), due[k][l]);
        x.back(0);
        x.upset();
        x.image(1);
        due("turned over", x.common(0, 1), 3);
        comparing(1);
    }

    private static int compared(PlyStacker x, int which, int k, int l) {
        return which == 0 ? x.partOf(k, l) : which == 1 ? x.common(k, l) : x.alike(k, l);
    }

    /** What partOf(), common(), alike() answer where they can't compare. */
    private static void comparing(int which) {
        PlyStacker x = uneven();
        due("nothing", compared(x, which, 0, 1), -6);
        x.image(1);
        due("one has nothing", compared(x, which, 0, 1), -6);
        due("one has nothing", compared(x, which, 1, 0), -6);
        for (int bad : new int[] {-1, 3, Integer.MAX_VALUE, Integer.MIN_VALUE}) {
            due("no such", compared(x, which, bad, 1), -2);
            due("no such", compared(x, which, 1, bad), -2);
            due("no such, nothing", compared(x, which, bad, 0), -2);
        }
        x.end(0);
        x.plate();
        int full = which == 1 ? 4 : 1;
        due("no PLATE is wanted", compared(x, which, 1, 1), full);
    }

    private static void p38() {
        PlyStacker x = uneven();
        long[][] due = {{1160, 86, 446}, {2872, 118, 356}, {2936, 134, 355}, {2056, 118, 444}};
        for (int k = 0; k < 4; k++) {
            for (int what = 0; what < 3; what++) due("lost(" + k + ", " + what + ")", x.lost(k, what), due[k][what]);
            due("what", x.lost(k, 3), NO_SUCH);
            due("what", x.lost(k, -1), NO_SUCH);
        }
        due("ply", x.lost(4, 0), NO_SUCH);
        due("ply", x.lost(-1, 0), NO_SUCH);
        due("empty", empty().lost(0, 0), NO_SUCH);
        due("no PLATE", none().lost(0, 0), NO_SUCH);
    }

    private static void p39() {
        PlyStacker x = uneven();
        for (int what = 0; what < 3; what++) {
            due("worst(" + what + ")", x.worst(what), 0);
            due("empty", empty().worst(what), -1);
            due("no PLATE", none().worst(what), -2);
        }
        x.swap(0, 3);
        x.turn(0, 3);
        due("worst(0)", x.worst(0), 3);
        due("worst(1)", x.worst(1), 3);
        due("worst(2)", x.worst(2), 3);
        due("the first of several", slanted(1).worst(1), 0);
        due("the first of several", told(2, AA, "aa cross", "aa flat", "aa flat", "aa cross").worst(1), 1);
        due("what", x.worst(3), -2);
        due("what", x.worst(-1), -2);
        due("what, empty", empty().worst(3), -2);
    }

    private static void p40() {
        due("at LIMITS", slanted(4).spared(800, 0, 0), 0);
        due("nothing to bear", slanted(4).spared(0, 0, 0), 15);
        due("DET of 0", told(1, AA, "aa flat").spared(0, 0, 0), 0);
        due("all", mirrored().spared(999, 0, 0), 15);
        due("the LOST one aside", told(2, AA + BB, "aa flat", "bb cross").spared(0, 100, 0), 2);
        due("not flat", uneven().spared(100, 100, 0), 15);
        due("not flat", uneven().spared(0, 340, 0), 4);
        due("empty", empty().spared(0, 0, 0), 0);
        for (int bad : BAD_LOADS) {
            due("load", mirrored().spared(bad, 0, 0), -2);
            due("load", mirrored().spared(0, bad, 0), -2);
            due("load", mirrored().spared(0, 0, bad), -2);
        }
        due("no PLATE", none().spared(0, 0, 0), -2);
    }

    private static void p41() {
        PlyStacker x = uneven();
        due("exchanges(0, 23)", x.exchanges(0, 23), 5);
        due("exchanges(0, 1)", x.exchanges(0, 1), 0);
        due("exchanges(0, 0)", x.exchanges(0, 0), 1);
        due("exchanges(0, 24)", x.exchanges(0, 24), -1);
        due("exchanges(1, 0)", x.exchanges(1, 0), -1);
        due("exchanges(0, -1)", x.exchanges(0, -1), -2);
        due("exchanges(8, 0)", x.exchanges(8, 0), -2);
        due("one TYPE twice", mirrored().exchanges(1, 1), 2);
        due("all the way", told(8, AA, "aa flat", "aa flat", "aa rise", "aa rise").exchanges(0, 5), 4);
        due("empty", empty().exchanges(7, 0), 0);
        due("empty", empty().exchanges(7, 1), -1);
        due("no PLATE", none().exchanges(0, 0), -2);
    }

    private static void p42() {
        PlyStacker x = told(1, AA + BB, "aa flat", "bb flat", "aa flat", "aa fall");
        int[][] due = {{2, 0, 1, 0}, {1, 0, 0, 0}};
        for (int k = 0; k < 2; k++) for (int a = 0; a < 4; a++) due("many " + k + a, x.many(k, a), due[k][a]);
        due("kind", x.many(2, 0), -2);
        due("kind", x.many(-1, 0), -2);
        due("angle", x.many(0, 4), -2);
        due("angle", x.many(0, -1), -2);
        due("empty", empty().many(0, 0), 0);
        due("no PLATE", none().many(0, 0), -2);
    }

    /** As many acts as there may be. */
    private static PlyStacker spent(PlyStacker x) {
        for (int k = 0; k < 30; k++) due("room", x.room(5 + k % 2), 0);
        due("count(3)", x.count(3), 30);
        return x;
    }

    private static void p43() {
        PlyStacker x = uneven();
        due("swap(0, 2)", x.swap(0, 2), 0);
        types(x, 7, 1, 0, 2);
        due("swap(3, 0)", x.swap(3, 0), 0);
        types(x, 2, 1, 0, 7);
        due("acts", x.count(3), 2);
        due("one", x.swap(1, 1), -5);
        due("one TYPE", mirrored().swap(0, 3), -5);
        due("ply", x.swap(0, 4), -2);
        due("ply", x.swap(4, 4), -2);
        due("ply", x.swap(-1, 0), -2);
        due("no PLATE", none().swap(0, 1), -2);
        due("acts", x.count(3), 2);
        x = spent(uneven());
        due("30 acts", x.swap(0, 1), -5);
        due("30 acts, none such", x.swap(0, 4), -2);
        types(x, 0, 1, 7, 2);
    }

    private static void p44() {
        PlyStacker x = uneven();
        due("turn(2, 0)", x.turn(2, 0), 3);
        types(x, 0, 1, 4, 2);
        due("turn(1, 2)", x.turn(1, 2), 1);
        types(x, 0, 2, 4, 2);
        due("it has that", x.turn(1, 2), -5);
        due("angle", x.turn(1, 4), -2);
        due("angle", x.turn(1, -1), -2);
        due("ply", x.turn(4, 0), -2);
        due("ply", x.turn(-1, 0), -2);
        due("acts", x.count(3), 2);
        due("no PLATE", none().turn(0, 0), -2);
        x = spent(uneven());
        due("30 acts", x.turn(0, 1), -5);
        due("30 acts, none such", x.turn(0, 4), -2);
        types(x, 0, 1, 7, 2);
    }

    private static void p45() {
        PlyStacker x = uneven();
        due("put(0, 1, 1)", x.put(0, 1, 1), 5);
        types(x, 5, 0, 1, 7, 2);
        due("put(5, 0, 3)", x.put(5, 0, 3), 6);
        types(x, 5, 0, 1, 7, 2, 3);
        due("put(3, 1, 3)", x.put(3, 1, 3), 7);
        types(x, 5, 0, 1, 7, 7, 2, 3);
        due("at", x.put(8, 0, 0), -2);
        due("at", x.put(-1, 0, 0), -2);
        due("kind", x.put(0, 2, 0), -2);
        due("kind", x.put(0, -1, 0), -2);
        due("angle", x.put(0, 0, 4), -2);
        due("angle", x.put(0, 0, -1), -2);
        due("put(7, 1, 3)", x.put(7, 1, 3), 8);
        due("there are 8", x.put(8, 0, 0), -5);
        due("there are 8, none such", x.put(9, 0, 0), -2);
        types(x, 5, 0, 1, 7, 7, 2, 3, 7);
        due("acts", x.count(3), 4);
        due("empty", empty().put(0, 0, 0), 1);
        due("no KIND", told(1, "").put(0, 0, 0), -2);
        due("no PLATE", none().put(0, 0, 0), -2);
        x = spent(uneven());
        due("30 acts", x.put(0, 0, 0), -5);
        due("30 acts, none such", x.put(5, 0, 0), -2);
        due("PLIES", x.count(2), 4);
    }

    private static void p46() {
        PlyStacker x = uneven();
        due("drop(1)", x.drop(1), 3);
        types(x, 0, 7, 2);
        due("drop(2)", x.drop(2), 2);
        types(x, 0, 7);
        due("drop(0)", x.drop(0), 1);
        due("drop(1)", x.drop(1), -2);
        due("drop(-1)", x.drop(-1), -2);
        due("drop(0)", x.drop(0), 0);
        due("drop(0)", x.drop(0), -2);
        due("even()", x.even(), 15);
        due("acts", x.count(3), 4);
        due("no PLATE", none().drop(0), -2);
        x = spent(uneven());
        due("30 acts", x.drop(0), -5);
        due("30 acts, none such", x.drop(4), -2);
        due("PLIES", x.count(2), 4);
    }

    private static void p47() {
        PlyStacker x = mirrored();
        due("become(1, 1)", x.become(1, 1), 4);
        types(x, 3, 0, 0, 3);
        due("become(0, 5)", x.become(0, 5), 2);
        types(x, 3, 3, 0, 0);
        due("it is that", x.become(0, 5), -5);
        due("not so many", x.become(0, 6), -1);
        due("k", x.become(0, -1), -2);
        due("mask", x.become(8, 0), -2);
        due("mask", x.become(-1, 0), -2);
        due("acts", x.count(3), 2);
        due("none", uneven().become(1, 0), -1);
        due("empty", empty().become(0, 0), -5);
        due("no PLATE", none().become(0, 0), -2);
        x = spent(mirrored());
        due("30 acts", x.become(0, 0), -5);
        due("30 acts, not so many", x.become(0, 6), -1);
        types(x, 0, 3, 3, 0);
    }

    private static void p48() {
        PlyStacker x = uneven();
        due("keep(13)", x.keep(13), 1);
        types(x, 0, 7, 2);
        due("none goes", x.keep(7), -5);
        due("set", x.keep(8), -2);
        due("set", x.keep(0), -2);
        due("set", x.keep(-1), -2);
        due("keep(4)", x.keep(4), 2);
        types(x, 2);
        due("acts", x.count(3), 2);
        due("empty", empty().keep(1), -2);
        due("empty", empty().keep(0), -2);
        due("no PLATE", none().keep(1), -2);
        x = spent(uneven());
        due("30 acts", x.keep(1), -5);
        due("30 acts, none such", x.keep(16), -2);
        due("PLIES", x.count(2), 4);
    }

    private static void p49() {
        PlyStacker x = uneven();
        due("room(8)", x.room(8), 0);
        due("count(0)", x.count(0), 8);
        due("it is so", x.room(8), -5);
        due("room(1)", x.room(1), 0);
        due("count(0)", x.count(0), 1);
        for (int bad : new int[] {0, 9, -1, Integer.MAX_VALUE}) due("room", x.room(bad), -2);
        due("acts", x.count(3), 2);
        due("no PLATE", none().room(1), -2);
        x = spent(uneven());
        due("30 acts", x.room(1), -5);
        due("30 acts, none such", x.room(9), -2);
    }

    private static void p50() {
        int[][] due = {{1, 3, 6, 0}, {3, 2, 4, 1}, {2, 0, 5, 3}};
        for (int n = 1; n <= 3; n++) {
            PlyStacker x = uneven();
            due("whirl(" + n + ")", x.whirl(n), 4);
            types(x, due[n - 1]);
            due("acts", x.count(3), 1);
        }
        PlyStacker x = uneven();
        for (int bad : new int[] {0, 4, -1}) due("n", x.whirl(bad), -2);
        due("empty", empty().whirl(1), -5);
        due("empty, n", empty().whirl(4), -2);
        due("no PLATE", none().whirl(1), -2);
        x = spent(uneven());
        due("30 acts", x.whirl(1), -5);
        due("30 acts, none such", x.whirl(0), -2);
        types(x, 0, 1, 7, 2);
    }

    private static void p51() {
        PlyStacker x = uneven();
        due("upset()", x.upset(), 4);
        types(x, 1, 7, 2, 0);
        due("upset()", x.upset(), 4);
        types(x, 0, 1, 7, 2);
        x.keep(10);
        due("rise, fall", x.upset(), -5);
        due("acts", x.count(3), 3);
        x.put(0, 0, 0);
        due("three of three", x.upset(), 3);
        types(x, 1, 2, 0);
        due("of none", mirrored().upset(), -5);
        due("of one", told(1, AA, "aa flat", "aa rise", "aa flat").upset(), 1);
        due("of none", empty().upset(), -5);
        due("no PLATE", none().upset(), -2);
        x = spent(uneven());
        due("30 acts", x.upset(), -5);
        types(x, 0, 1, 7, 2);
    }

    private static void p52() {
        for (int over = 0; over < 2; over++) {
            for (int n = 0; n < 4; n++) {
                PlyStacker x = told(1, AA + BB, "aa flat", "bb rise", "aa rise", "aa flat", "aa cross");
                x.image(2);
                if (over == 1) x.upset();
                if (n > 0) x.whirl(n);
                x.image(0);
                x.back(2);
                due("turned " + over + n, x.turned(0), 4 * over + n);
            }
        }
        PlyStacker x = told(1, AA, "aa rise");
        x.image(0);
        x.upset();
        due("whirled rather than turned over", x.turned(0), 2);
        due("nothing", x.turned(1), -6);
        due("k", x.turned(3), -2);
        due("k", x.turned(-1), -2);
        x.put(0, 0, 0);
        due("more PLIES", x.turned(0), -1);
        x.drop(0);
        x.whirl(1);
        due("turned", x.turned(0), 1);
        x = told(1, AA + BB, "aa flat", "bb flat", "aa rise");
        x.image(0);
        x.turn(1, 3);
        due("none", x.turned(0), -1);
        x = empty();
        x.image(0);
        due("empty", x.turned(0), 0);
        x.room(1);
        due("ROOM aside", x.turned(0), 0);
        x.plate();
        due("no PLATE", x.turned(0), -2);
        due("no PLATE, nothing", x.turned(1), -2);
    }

    private static void p53() {
        PlyStacker x = uneven();
        x.room(6);
        for (int k = 0; k < 3; k++) due("image(" + k + ")", x.image(k), 0);
        for (int bad : new int[] {-1, 3, Integer.MAX_VALUE, Integer.MIN_VALUE}) due("image", x.image(bad), -2);
        x.swap(0, 1);
        x.image(1);
        x.drop(0);
        due("acts", x.count(3), 3);
        x.back(1);
        types(x, 1, 0, 7, 2);
        x.back(2);
        types(x, 0, 1, 7, 2);
        due("no PLATE", none().image(0), -2);
    }

    private static void p54() {
        PlyStacker x = uneven();
        x.room(6);
        x.image(0);
        x.anew();
        x.keep(1);
        Feeder.feed(x, "plate room 1;" + CC);
        x.plate();
        due("back(0)", x.back(0), 0);
        types(x, 0, 1, 7, 2);
        int[] counts = {6, 2, 4, 1, 7, 0};
        for (int what = 0; what < 6; what++) due("count(" + what + ")", x.count(what), counts[what]);
        due("kind(0, 0)", x.kind(0, 0), 20);
        due("stiff(0, 0, 0)", x.stiff(0, 0, 0), 152);
        due("undo()", x.undo(), 0);
        due("ROOM", x.count(0), 3);
        x.plate();
        x.feed(0, 0, 0, 0, 0);
        due("back(0) without a PLATE", x.back(0), 0);
        due("the TAPE stays", x.count(5), 20);
        due("acts again", x.count(3), 1);
        due("nothing", x.back(1), -6);
        due("k", x.back(3), -2);
        due("k", x.back(-1), -2);
        due("nothing, no PLATE", none().back(0), -6);
    }

    private static void p55() {
        PlyStacker x = imaged();
        int[][] due = {{1, 0, 0}, {0, 1, 1}, {0, 1, 1}};
        for (int k = 0; k < 3; k++) for (int l = 0; l < 3; l++) due("alike " + k + l, x.alike(k, l), due[k][l]);
        x.put(0, 0, 0);
        x.image(0);
        x.drop(0);
        x.put(0, 1, 3);
        x.image(1);
        due("not as many of each", x.alike(0, 1), 0);
        comparing(2);
    }

    private static void p56() {
        PlyStacker x = uneven();
        due("there is none", x.undo(), -5);
        x.swap(0, 1);
        x.turn(0, 3);
        x.put(0, 0, 0);
        x.drop(4);
        x.become(0, 0);
        x.keep(3);
        x.room(1);
        x.whirl(1);
        x.upset();
        int[][] rows = {{1, 1}, {0, 0}, {0, 0}, {0, 0, 3, 7}, {0, 3, 0, 7}, {0, 3, 0, 7, 2}, {3, 0, 7, 2}, {1, 0, 7, 2},
            {0, 1, 7, 2}};
        for (int k = 0; k < rows.length; k++) {
            due("undo()", x.undo(), x.count(3));
            due("acts", x.count(3), rows.length - 1 - k);
            types(x, rows[k]);
            due("ROOM", x.count(0), k < 2 ? 1 : 3);
        }
        due("there is none", x.undo(), -5);
        due("no PLATE", none().undo(), -2);
        x = spent(uneven());
        due("undo()", x.undo(), 29);
        due("an act again", x.swap(0, 1), 0);
        due("30 acts", x.swap(0, 1), -5);
    }

    private static void p57() {
        PlyStacker x = uneven();
        due("there was none", x.anew(), 0);
        x.swap(0, 1);
        x.drop(0);
        x.room(8);
        due("anew()", x.anew(), 3);
        types(x, 0, 1, 7, 2);
        due("ROOM", x.count(0), 3);
        due("acts", x.count(3), 0);
        due("there is none", x.undo(), -5);
        due("no PLATE", none().anew(), -2);
        due("30 acts", spent(uneven()).anew(), 30);
    }

    private static void ask(int which) throws ReflectiveOperationException {
        promise = which;
        int before = asked;
        PromisesTest.class.getDeclaredMethod("p" + which).invoke(null);
        if (asked == before) due("a test", 0, 1);
    }

    public static void main(String[] args) throws ReflectiveOperationException {
        for (int which = 1; which <= 57; which++) ask(which);
        System.out.println(wrong == 0 ? asked + " answers are as due" : wrong + " answers are not as due");
        if (wrong != 0) System.exit(1);
    }
}
