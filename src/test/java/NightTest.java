/** Promises 6 to 11, 26 and 39 to 41: what is seen, done, undone and held. */
public final class NightTest {
    private static final String NINE = "sleeper a 0 0;sleeper b 0 1;sleeper c 0 2;sleeper d 0 3;sleeper e 0 4;"
        + "sleeper f 0 5;sleeper g 0 6;sleeper h 0 7;sleeper i 0 8;";

    public static void main(String[] args) {
        promise6();
        promise7();
        promise8();
        promise9();
        promise10();
        lots();
        promise11();
        promise26();
        promise39And40();
        promise41();
        Checks.end("NightTest");
    }

    private static void promise6() {
        Checks.about("promise 6");
        PartedSide x = Checks.told("sleeper a 1 4; sleeper b 0 6; sleeper c 1 2; cold 2 30; cold 0 3; begins 22;"
            + "lies = 1 - own; parts = habit * 3; chills = draft * 5 + hour; costs = habit * 20 + parted;");
        int[] a = {1, 4, 0, 3, 0, 0, 12, 37, 80, 0};
        int[] b = {0, 6, 0, 0, 1, 1, 18, 22, 99, 0};
        int[] c = {1, 2, 0, 30, 2, 0, 6, 100, 40, 0};
        for (int what = 0; what < 10; what++) {
            Checks.due("sleeper(0, " + what + ")", x.sleeper(0, what), a[what]);
            Checks.due("sleeper(1, " + what + ")", x.sleeper(1, what), b[what]);
            Checks.due("sleeper(2, " + what + ")", x.sleeper(2, what), c[what]);
        }
        int[][] wrong = {{-1, 0}, {3, 0}, {9, 0}, {0, -1}, {0, 10}, {Integer.MIN_VALUE, 1}, {Integer.MAX_VALUE, 1}, {1, 32}};
        for (int[] w : wrong) {
            Checks.due("sleeper(" + w[0] + ", " + w[1] + ")", x.sleeper(w[0], w[1]), -100000);
        }
        // before and behind, without a ring and with one
        beside("ring 0;", 0, 0, 1);
        beside("ring 0;", 3, 0, 0);
        beside("ring 1;", 0, 1, 1);
        beside("ring 1;", 3, 0, 1);
        PartedSide one = Checks.told("sleeper a 1 0; ring 1; costs = own + 2 * before + 4 * behind;");
        Checks.due("one alone in a ring", one.sleeper(0, 8), 7);
        one = Checks.told("sleeper a 1 0; costs = own + 2 * before + 4 * behind;");
        Checks.due("one alone", one.sleeper(0, 8), 1);
    }

    /** In beds that lie 1 1 0 1. */
    private static void beside(String ring, int bed, int before, int behind) {
        PartedSide x = Checks.told("sleeper a 1 0; sleeper b 1 0; sleeper c 0 0; sleeper d 1 0; costs = 2 * before + behind;" + ring);
        Checks.due("beside " + bed + " by " + ring, x.sleeper(bed, 8), 2 * before + behind);
    }

    private static void promise7() {
        Checks.about("promise 7");
        PartedSide x = Checks.told("sleeper a 1 0; sleeper b 0 0;");
        Checks.due("turn(1)", x.turn(1), true);
        Checks.due("count(3)", x.count(3), 3);
        Checks.due("turn(0)", x.turn(0), true);
        Checks.due("turn(0)", x.turn(0), true);
        Checks.due("count(3)", x.count(3), 3);
        Checks.due("sleeper(0, 9)", x.sleeper(0, 9), 2);
        Checks.due("sleeper(1, 9)", x.sleeper(1, 9), 1);
        for (int bed : new int[] {-1, 2, 9, 32, Integer.MIN_VALUE, Integer.MAX_VALUE}) {
            Checks.due("turn(" + bed + ")", x.turn(bed), false);
        }
        Checks.due("count(3)", x.count(3), 3);
        Checks.due("count(8)", x.count(8), 3);
        Checks.due("count(14)", x.count(14), 3);
    }

    private static void promise8() {
        Checks.about("promise 8");
        PartedSide x = Checks.told("sleeper a 1 0; sleeper b 0 0; sleeper c 0 0;");
        Checks.due("whistle()", x.whistle(), true);
        Checks.due("count(3)", x.count(3), 6);
        Checks.due("count(14), as nobody was turned one by one", x.count(14), 0);
        Checks.due("sleeper(1, 9)", x.sleeper(1, 9), 0);
        Checks.due("count(8)", x.count(8), 1);
        x = new PartedSide();
        Checks.due("whistle() over nobody", x.whistle(), false);
        Checks.due("count(8)", x.count(8), 0);
    }

    private static void promise9() {
        Checks.about("promise 9");
        PartedSide x = Checks.told("sleeper a 1 4; sleeper b 0 6; sleeper c 0 2; cold 0 3; cold 2 9;");
        x.hours(2);
        x.turn(2);
        x.turn(2);
        Checks.due("change(2, 0)", x.change(2, 0), true);
        int[] first = {0, 2, -2, 3, 2};
        int[] last = {1, 4, 2, 9, 0};
        for (int what = 0; what < 5; what++) {
            Checks.due("sleeper(0, " + what + ")", x.sleeper(0, what), first[what]);
            Checks.due("sleeper(2, " + what + ")", x.sleeper(2, what), last[what]);
        }
        Checks.due("sleeper(0, 9)", x.sleeper(0, 9), 2);
        Checks.due("sleeper(2, 9)", x.sleeper(2, 9), 0);
        Checks.due("sleeper(1, 4)", x.sleeper(1, 4), 1);
        Checks.due("change(0, 1), both right", x.change(0, 1), true);
        Checks.due("count(3)", x.count(3), 4);
        int[][] wrong = {{0, 0}, {0, 3}, {3, 0}, {-1, 0}, {0, -1}, {Integer.MAX_VALUE, 1}, {1, Integer.MIN_VALUE}, {3, 3}};
        for (int[] w : wrong) {
            Checks.due("change(" + w[0] + ", " + w[1] + ")", x.change(w[0], w[1]), false);
        }
        Checks.due("count(8)", x.count(8), 5);
    }

    private static void promise10() {
        Checks.about("promise 10");
        PartedSide x = Checks.told("sleeper a 1 1; sleeper b 0 2; sleeper c 0 3; ring 1; lies = before; begins 22;"
            + "parts = if parted < 0 then 50 else 10 * habit + hour;");
        Checks.due("hours(0)", x.hours(0), 22);
        Checks.due("count(8)", x.count(8), 0);
        Checks.due("hours(1)", x.hours(1), 23);
        Checks.due("count(3)", x.count(3), 2);
        Checks.due("a", x.sleeper(0, 2), 32);
        Checks.due("b", x.sleeper(1, 2), -42);
        Checks.due("c", x.sleeper(2, 2), -52);
        Checks.due("hours(2)", x.hours(2), 25);
        Checks.due("count(3)", x.count(3), 1);
        // at 23: b left by 50 as theirs is below 0, a right by 33, c right by 50; at 0: c left by 50, a right by 50, b right by 20
        Checks.due("a", x.sleeper(0, 2), -51);
        Checks.due("b", x.sleeper(1, 2), -12);
        Checks.due("c", x.sleeper(2, 2), -52);
        Checks.due("count(2)", x.count(2), 1);
        Checks.due("count(15)", x.count(15), 3);
        Checks.due("hours(48)", x.hours(48), 73);
        for (int n : new int[] {-1, 49, Integer.MIN_VALUE, Integer.MAX_VALUE}) {
            Checks.due("hours(" + n + ")", x.hours(n), -1);
        }
        Checks.due("count(1)", x.count(1), 73);
        Checks.due("count(8)", x.count(8), 3);
        // partings stay within 9,999
        x = Checks.told("sleeper a 1 0; sleeper b 0 0; parts = 9999;");
        for (int i = 0; i < 2; i++) {
            x.hours(48);
        }
        x.hours(5);
        Checks.due("a", x.sleeper(0, 2), 9999);
        Checks.due("b", x.sleeper(1, 2), -9999);
        x = Checks.told("sleeper a 1 0; parts = 99;");
        x.hours(48);
        x.hours(48);
        x.hours(4);
        Checks.due("a", x.sleeper(0, 2), 9900);
        x.hours(2);
        Checks.due("a", x.sleeper(0, 2), 9999);
    }

    /** LOT 100 of seed 7: hour 0: 94 97 70 51 25 18 50 78 80, hour 1: 93 82 71 46 48 83 51 41 72. */
    private static void lots() {
        Checks.about("lots");
        PartedSide x = Checks.told(NINE + "chills = 51; seed 7;");
        x.hours(1);
        Checks.due("count(3)", x.count(3), 16 + 32 + 64);
        Checks.due("count(11)", x.count(11), 3);
        x.hours(1);
        Checks.due("count(3)", x.count(3), 16 + 32 + 64 ^ 8 + 16 + 128);
        Checks.due("count(11)", x.count(11), 6);
        // counted on past the day's end: hour 23: 12 15 47 86 92 96 92 13 67, hour 24: 99 81 93 56 86 33 58 39 65
        x = Checks.told(NINE + "chills = 51; seed 7; begins 23;");
        x.hours(2);
        Checks.due("count(3)", x.count(3), 1 + 2 + 4 + 128 ^ 32 + 128);
        // seed 9999, hour 5: 75 36 45 4 62 69 41 35 44; who is chilled lies the other way than LIES tells
        x = Checks.told(NINE + "chills = draft; cold 0 99; cold 3 4; cold 7 36; seed 9999; begins 5; lies = 1;");
        x.hours(1);
        Checks.due("count(3)", x.count(3), 511 - 1 - 128);
        Checks.due("count(11)", x.count(11), 2);
        // 100 chills all, and CHILLS are as the hour began
        x = Checks.told("sleeper a 1 0; sleeper b 0 0; chills = 100 * before;");
        x.hours(1);
        Checks.due("count(3)", x.count(3), 3);
        x.hours(1);
        Checks.due("count(3)", x.count(3), 1);
        Checks.due("count(11)", x.count(11), 2);
        x = Checks.told("sleeper a 1 0; seed 5;");
        x.hours(48);
        Checks.due("nobody is chilled without CHILLS", x.count(11), 0);
    }

    private static void promise11() {
        Checks.about("promise 11");
        PartedSide x = Checks.told("sleeper a 1 4; sleeper b 0 6; chills = 100; begins 3;");
        Checks.due("undo()", x.undo(), false);
        x.turn(1);
        x.whistle();
        x.change(0, 1);
        x.hours(4);
        x.hours(0);
        Checks.due("count(8)", x.count(8), 4);
        Checks.due("undo() of hours", x.undo(), true);
        Checks.due("count(1)", x.count(1), 3);
        Checks.due("count(15)", x.count(15), 0);
        Checks.due("count(11)", x.count(11), 0);
        Checks.due("parting", x.sleeper(0, 2), 0);
        Checks.due("count(3)", x.count(3), 0);
        Checks.due("undo() of change", x.undo(), true);
        Checks.due("sleeper(0, 4)", x.sleeper(0, 4), 0);
        Checks.due("sleeper(0, 1)", x.sleeper(0, 1), 4);
        Checks.due("undo() of whistle", x.undo(), true);
        Checks.due("count(3)", x.count(3), 3);
        Checks.due("count(14)", x.count(14), 1);
        Checks.due("undo() of turn", x.undo(), true);
        Checks.due("count(3)", x.count(3), 1);
        Checks.due("count(14)", x.count(14), 0);
        Checks.due("undo() of none", x.undo(), false);
        // the last 40
        for (int i = 0; i < 45; i++) {
            x.hours(1);
            Checks.due("count(8)", x.count(8), Math.min(40, i + 1));
        }
        for (int i = 0; i < 40; i++) {
            Checks.due("undo()", x.undo(), true);
            Checks.due("count(1)", x.count(1), 3 + 44 - i);
        }
        Checks.due("undo()", x.undo(), false);
        Checks.due("count(1)", x.count(1), 8);
        // what is known of how all lie next must not stay behind
        x = Checks.told("sleeper a 0 4; sleeper b 0 0; lies = habit;");
        Checks.due("count(6)", x.count(6), 1);
        x.change(0, 1);
        Checks.due("count(6)", x.count(6), 2);
        x.undo();
        Checks.due("count(6)", x.count(6), 1);
    }

    private static void promise26() {
        Checks.about("promise 26");
        PartedSide x = new PartedSide();
        Checks.due("parting(0)", x.parting(0), -100000);
        Checks.due("parting(1)", x.parting(1), -100000);
        x = Checks.told("sleeper a 0 9; sleeper b 0 2; sleeper c 0 2; parts = habit;");
        Checks.due("parting(0), all alike", x.parting(0), 0);
        Checks.due("parting(1)", x.parting(1), 0);
        x.hours(1);
        Checks.due("parting(0), b and c alike", x.parting(0), 1);
        Checks.due("parting(1)", x.parting(1), -2);
        x.turn(2);
        x.hours(2);
        Checks.due("parting(0)", x.parting(0), 2);
        Checks.due("parting(1)", x.parting(1), 2);
        Checks.due("parting(2)", x.parting(2), -100000);
        Checks.due("parting(-1)", x.parting(-1), -100000);
    }

    private static void promise39And40() {
        Checks.about("promises 39 and 40");
        PartedSide x = new PartedSide();
        Checks.due("restore(0)", x.restore(0), false);
        Checks.due("hold(0) of nobody", x.hold(0), true);
        x.hours(5);
        Checks.due("restore(0)", x.restore(0), true);
        Checks.due("count(1)", x.count(1), 0);
        x = Checks.told("sleeper a 1 4; sleeper b 0 6; chills = 100; begins 3;");
        for (int slot : new int[] {-1, 3, Integer.MIN_VALUE, Integer.MAX_VALUE}) {
            Checks.due("hold(" + slot + ")", x.hold(slot), false);
            Checks.due("restore(" + slot + ")", x.restore(slot), false);
        }
        x.turn(1);
        x.hours(3);
        x.change(0, 1);
        Checks.due("hold(2)", x.hold(2), true);
        Checks.due("count(10)", x.count(10), 1);
        Checks.due("count(8) behind hold", x.count(8), 3);
        x.hours(10);
        x.turn(0);
        x.change(0, 1);
        x.tell(0, 1, true);
        Checks.feed(x, "ring");
        Checks.due("hold(0)", x.hold(0), true);
        Checks.due("count(10)", x.count(10), 2);
        Checks.due("restore(1)", x.restore(1), false);
        Checks.due("count(8)", x.count(8), 6);
        Checks.due("restore(2)", x.restore(2), true);
        Checks.due("count(1)", x.count(1), 6);
        Checks.due("count(11)", x.count(11), 6);
        Checks.due("count(14)", x.count(14), 1);
        Checks.due("count(15)", x.count(15), 3);
        Checks.due("sleeper(0, 4)", x.sleeper(0, 4), 1);
        Checks.due("sleeper(0, 9)", x.sleeper(0, 9), 1);
        Checks.due("count(8)", x.count(8), 0);
        Checks.due("undo()", x.undo(), false);
        Checks.due("count(9): what was told stays", x.count(9), 1);
        Checks.due("count(7): the tape stays", x.count(7), 4);
        Checks.due("count(10)", x.count(10), 2);
        x.whistle();
        x.hours(2);
        Checks.due("restore(2) once more", x.restore(2), true);
        Checks.due("count(1)", x.count(1), 6);
        Checks.due("restore(0)", x.restore(0), true);
        Checks.due("count(1)", x.count(1), 16);
        x.turn(1);
        Checks.due("hold(0) over what it held", x.hold(0), true);
        x.undo();
        x.restore(0);
        Checks.due("count(14)", x.count(14), 3);
        Checks.due("count(10)", x.count(10), 2);
        // what is known of how all lie next must not stay behind
        x = Checks.told("sleeper a 0 4; sleeper b 0 0; lies = habit;");
        x.hold(1);
        x.change(0, 1);
        Checks.due("count(6)", x.count(6), 2);
        x.restore(1);
        Checks.due("count(6)", x.count(6), 1);
    }

    private static void promise41() {
        Checks.about("promise 41");
        PartedSide x = Checks.told("sleeper a 1 4; sleeper b 0 6; sleeper c 1 1; sleeper d 0 0; begins 20; ring 1;"
            + "lies = before; costs = habit + 1; chills = if hour < 20 then 0 else 100 * (bed / 3);");
        int[] due = {4, 20, 20, 5, 2, 0, 10, 0, 0, 0, 0, 0, 8, 1, 0, 0, 11};
        counts(x, due);
        x.hours(6);
        x.turn(1);
        x.turn(3);
        x.turn(3);
        x.tell(0, 0, true);
        x.tell(0, 0, true);
        x.hold(1);
        Checks.feed(x, "ring 0;");
        // d is chilled at 20, 21, 22 and 23: rows 5, 2, 12, 1, 10, 5, 10; then b is turned, d twice
        int[] later = {4, 26, 2, 8, 1, 0, 1, 7, 4, 2, 1, 4, 14, 1, 3, 6, 11};
        counts(x, later);
        Checks.due("count(-1)", x.count(-1), -1);
        Checks.due("count(17)", x.count(17), -1);
        Checks.due("count(max)", x.count(Integer.MAX_VALUE), -1);
        Checks.due("count(min)", x.count(Integer.MIN_VALUE), -1);
        x = Checks.told("sleeper a 1 4; sleeper b 0 6; sleeper c 1 0; parts = habit;");
        x.hours(1);
        Checks.due("count(5)", x.count(5), 1);
        x.change(0, 1);
        Checks.due("count(5), by beds", x.count(5), 2);
    }

    private static void counts(PartedSide x, int[] due) {
        for (int what = 0; what <= 16; what++) {
            Checks.due("count(" + what + ")", x.count(what), due[what]);
        }
    }
}
