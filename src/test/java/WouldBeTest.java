/** Promises 12 to 34 but 26: what would be. */
public final class WouldBeTest {
    private static final int MIN = Integer.MIN_VALUE;
    private static final int MAX = Integer.MAX_VALUE;

    public static void main(String[] args) {
        promise12();
        promise13();
        promise14();
        promise15();
        promise16();
        promise17();
        promise18();
        promise19();
        promise20();
        promise21();
        promise22();
        promise23();
        promise24();
        promise25();
        promise27();
        promise28();
        promise29();
        promise30();
        promise31();
        promise32();
        promise33();
        promise34();
        nothingHappens();
        Checks.end("WouldBeTest");
    }

    private static PartedSide row(String digits, String more) {
        return Checks.row(digits, more);
    }

    private static void promise12() {
        Checks.about("promise 12");
        PartedSide x = row("1000", "ring 1; lies = before; chills = 100; begins 23;");
        Checks.due("after(1, 0)", x.after(1, 0), 1);
        Checks.due("after(1, 1)", x.after(1, 1), 2);
        Checks.due("after(9, 1)", x.after(9, 1), 3);
        Checks.due("after(15, 48)", x.after(15, 48), 15);
        Checks.due("after(6, 47)", x.after(6, 47), 3);
        int[][] wrong = {{16, 0}, {-1, 0}, {0, -1}, {0, 49}, {MIN, 0}, {MAX, 0}, {0, MIN}, {0, MAX}};
        for (int[] w : wrong) {
            Checks.due("after(" + w[0] + ", " + w[1] + ")", x.after(w[0], w[1]), -1);
        }
        // by the hour of the day: a lies left only behind the hour 0
        x = row("10", "lies = if hour < 1 then 1 else 0; begins 22;");
        Checks.due("after(0, 2)", x.after(0, 2), 0);
        Checks.due("after(0, 3)", x.after(0, 3), 3);
        Checks.due("after(3, 4)", x.after(3, 4), 0);
        Checks.due("after(3, 27)", x.after(3, 27), 3);
        // by partings, which go on from those of now: left until theirs is 3
        x = row("10", "lies = if parted < 3 then 1 else 0;");
        Checks.due("after(1, 3)", x.after(1, 3), 3);
        Checks.due("after(1, 4)", x.after(1, 4), 2);
        Checks.due("after(0, 4)", x.after(0, 4), 3);
        Checks.due("after(0, 5)", x.after(0, 5), 3);
        Checks.due("after(0, 6)", x.after(0, 6), 0);
        x.hours(2);
        Checks.due("after(3, 1)", x.after(3, 1), 3);
        Checks.due("after(3, 2)", x.after(3, 2), 2);
    }

    private static void promise13() {
        Checks.about("promise 13");
        PartedSide x = row("0110", "costs = 1 + bed;");
        Checks.due("turned(0, 0)", x.turned(0, 0), 5);
        Checks.due("turned(24, 1)", x.turned(24, 1), 9);
        // any one left makes all left in the end; the least cost, then the fewest, then the least bits
        x = row("0000", "ring 1; lies = own + before; costs = if bed < 2 then 3 else 2;");
        Checks.due("turned(3, 0)", x.turned(3, 0), 2);
        Checks.due("turned(3, 1)", x.turned(3, 1), 4);
        Checks.due("turned(1, 0)", x.turned(1, 0), 5);
        Checks.due("turned(1, 1)", x.turned(1, 1), 5);
        x = row("0000", "ring 1; lies = own + before; costs = 0;");
        Checks.due("turned(3, 1), the fewest for nothing", x.turned(3, 1), 1);
        x = row("1111", "lies = own; costs = 0;");
        Checks.due("turned(3, 1), nobody", x.turned(3, 1), 0);
        // all lie left next if a and b do now, or c does: for 2 either way, so the fewest, though their bits are more
        String law = "ring 1; lies = if bed < 1 then own * behind + before else if bed < 2 then own * before + behind "
            + "else before * behind + own;";
        x = row("000", law + "costs = 1 + bed / 2;");
        Checks.due("turned(1, 0)", x.turned(1, 0), 2);
        Checks.due("turned(1, 1)", x.turned(1, 1), 4);
        x = row("000", law + "costs = 1 + bed / 2 * 2;");
        Checks.due("turned(1, 0), two for 2", x.turned(1, 0), 2);
        Checks.due("turned(1, 1)", x.turned(1, 1), 3);
        // within 2 hours one alone is enough, within 1 it takes two
        x = row("00000", "ring 1; lies = own + before + behind; costs = if bed < 2 then 1 else if bed < 3 then 2 else 9;");
        Checks.due("turned(2, 1)", x.turned(2, 1), 1);
        Checks.due("turned(1, 1)", x.turned(1, 1), 5);
        x = row("00", "lies = before;");
        Checks.due("turned(1, 0)", x.turned(1, 0), -2);
        Checks.due("turned(1, 1)", x.turned(1, 1), -2);
        // COSTS are of now, of how all lie now: both right, so 4 each, whoever else is turned
        x = row("00", "costs = 4 + 9 * (before + behind);");
        Checks.due("turned(0, 0)", x.turned(0, 0), 8);
        int[][] wrong = {{-1, 0}, {25, 0}, {0, -1}, {0, 2}, {MIN, 0}, {MAX, 1}, {3, MAX}};
        for (int[] w : wrong) {
            Checks.due("turned(" + w[0] + ", " + w[1] + ")", x.turned(w[0], w[1]), -1);
        }
    }

    private static void promise14() {
        Checks.about("promise 14");
        PartedSide x = row("0000", "ring 1; lies = own + before; costs = 99;");
        Checks.due("soonest(0)", x.soonest(0), 3);
        Checks.due("soonest(1)", x.soonest(1), 0);
        x = row("0010", "lies = own + before + behind;");
        Checks.due("soonest(0)", x.soonest(0), 1);
        Checks.due("soonest(1)", x.soonest(1), 0);
        x = row("0010", "ring 1; lies = own + before + behind;");
        Checks.due("soonest(0)", x.soonest(0), 1);
        Checks.due("soonest(1)", x.soonest(1), 0);
        x = row("0110", "lies = own + before + behind;");
        Checks.due("soonest(0)", x.soonest(0), 1);
        Checks.due("soonest(1), nobody", x.soonest(1), -3);
        x = row("100", "lies = 1 - own;");
        Checks.due("soonest(0), by turning one who lies left", x.soonest(0), 1);
        Checks.due("soonest(1)", x.soonest(1), 0);
        x = row("00", "lies = if parted < 0 - 22 then 1 else 0;");
        Checks.due("soonest(0), 24 hours on by partings", x.soonest(0), 24);
        x = row("00", "lies = if parted < 0 - 23 then 1 else 0;");
        Checks.due("soonest(0), 25 hours are too many", x.soonest(0), -2);
        x = row("1111", "lies = 0;");
        Checks.due("soonest(0)", x.soonest(0), 0);
        Checks.due("soonest(1)", x.soonest(1), -3);
        x = row("00", "begins 0; lies = if hour < 23 then 0 else 1;");
        Checks.due("soonest(0), at the end of the day", x.soonest(0), 24);
        x = row("00", "begins 23; lies = if hour < 22 then 0 else 1 - hour / 23;");
        Checks.due("soonest(0), 24 hours on", x.soonest(0), 24);
        x = row("00", "lies = 0;");
        Checks.due("soonest(0)", x.soonest(0), -2);
        Checks.due("soonest(1)", x.soonest(1), -2);
        for (int what : new int[] {-1, 2, MIN, MAX}) {
            Checks.due("soonest(" + what + ")", x.soonest(what), -1);
        }
    }

    private static void promise15() {
        Checks.about("promise 15");
        PartedSide x = row("10100", "ring 1; lies = (own + before + behind) / 2;");
        Checks.due("spread(1, 0)", x.spread(1, 0), 2);
        // 10100 becomes 01000; 11100 becomes 11100
        Checks.due("spread(1, 1)", x.spread(1, 1), 5);
        Checks.due("spread(1, 2)", x.spread(1, 2), 7);
        Checks.due("spread(1, 24)", x.spread(1, 24), 7);
        int[][] wrong = {{-1, 0}, {5, 0}, {0, -1}, {0, 25}, {MIN, 1}, {MAX, 1}, {32, 1}, {0, MAX}};
        for (int[] w : wrong) {
            Checks.due("spread(" + w[0] + ", " + w[1] + ")", x.spread(w[0], w[1]), -1);
        }
    }

    private static void promise16() {
        Checks.about("promise 16");
        PartedSide x = row("000", "lies = before;");
        Checks.due("leads(4, 1, 0)", x.leads(4, 1, 0), 2);
        Checks.due("leads(4, 1, 1)", x.leads(4, 1, 1), 2);
        Checks.due("leads(4, 2, 0)", x.leads(4, 2, 0), 4);
        Checks.due("leads(4, 2, 1)", x.leads(4, 2, 1), 1);
        Checks.due("leads(4, 3, 0)", x.leads(4, 3, 0), 0);
        Checks.due("leads(4, 3, 1)", x.leads(4, 3, 1), -2);
        Checks.due("leads(5, 0, 0)", x.leads(5, 0, 0), 1);
        Checks.due("leads(5, 0, 1)", x.leads(5, 0, 1), 5);
        Checks.due("leads(0, 24, 0)", x.leads(0, 24, 0), 8);
        int[][] wrong = {{8, 0, 0}, {-1, 0, 0}, {0, -1, 0}, {0, 25, 0}, {0, 0, -1}, {0, 0, 2}, {MAX, 1, 1}, {1, MIN, 1}};
        for (int[] w : wrong) {
            Checks.due("leads(" + w[0] + ", " + w[1] + ", " + w[2] + ")", x.leads(w[0], w[1], w[2]), -1);
        }
    }

    private static void promise17() {
        Checks.about("promise 17");
        PartedSide x = row("011", "lies = before; costs = 10 + bed;");
        Checks.due("turnTo(6, 0)", x.turnTo(6, 0), 0);
        Checks.due("turnTo(1, 0)", x.turnTo(1, 0), 33);
        Checks.due("turnTo(4, 1)", x.turnTo(4, 1), 0);
        Checks.due("turnTo(2, 1)", x.turnTo(2, 1), 21);
        Checks.due("turnTo(1, 1)", x.turnTo(1, 1), -2);
        Checks.due("turnTo(4, 2)", x.turnTo(4, 2), 10);
        Checks.due("turnTo(0, 24)", x.turnTo(0, 24), 0);
        int[][] wrong = {{8, 0}, {-1, 0}, {0, -1}, {0, 25}, {MAX, 1}, {MIN, 1}};
        for (int[] w : wrong) {
            Checks.due("turnTo(" + w[0] + ", " + w[1] + ")", x.turnTo(w[0], w[1]), -1);
        }
    }

    private static void promise18() {
        Checks.about("promise 18");
        PartedSide x = row("100", "lies = before; costs = 10 * (bed + 1) + hour + before; begins 23; chills = 100;");
        Checks.due("round(1, 0)", x.round(1, 0), 2);
        // b costs 20 + 23 + 1 as a lies left, c 30 + 23 as b lies right, all as it was before the round
        Checks.due("round(1, 1)", x.round(1, 1), 97);
        Checks.due("round(2, 0)", x.round(2, 0), 3);
        Checks.due("round(2, 1), a right at the hour 0", x.round(2, 1), 107);
        Checks.due("round(3, 1), and at the hour 1", x.round(3, 1), 118);
        Checks.due("round(48, 0)", x.round(48, 0), 49);
        // partings grow by who lies left when the hour begins, turned or not
        x = row("00", "lies = 0; costs = 1 + parted;");
        Checks.due("round(3, 0)", x.round(3, 0), 6);
        Checks.due("round(3, 1)", x.round(3, 1), 2 * (1 + 2 + 3));
        int[][] wrong = {{0, 0}, {49, 0}, {-1, 1}, {1, -1}, {1, 2}, {MAX, 0}, {MIN, 0}};
        for (int[] w : wrong) {
            Checks.due("round(" + w[0] + ", " + w[1] + ")", x.round(w[0], w[1]), -1);
        }
    }

    private static void promise19() {
        Checks.about("promise 19");
        PartedSide x = row("101", "lies = own; chills = 100;");
        Checks.due("rule(0)", x.rule(0), 0xaa);
        x = row("101", "lies = before - behind;");
        Checks.due("rule(0)", x.rule(0), 0x0c);
        Checks.due("rule(2)", x.rule(2), 0x0c);
        x = row("101", "lies = behind;");
        Checks.due("rule(1)", x.rule(1), 0xf0);
        x = Checks.told("sleeper a 1 3; sleeper b 0 5; cold 1 7; begins 4; ring 1;"
            + "lies = if habit < 4 then own * before else if hour < 5 then draft - 6 else parted;");
        Checks.due("rule(0)", x.rule(0), 0x88);
        Checks.due("rule(1)", x.rule(1), 0xff);
        x.hold(0);
        x.hours(1);
        Checks.due("rule(1), by a parting below 0", x.rule(1), 0);
        x.restore(0);
        x.turn(1);
        x.hours(1);
        Checks.due("rule(1), by a parting above 0", x.rule(1), 0xff);
        x = Checks.told("sleeper a 1 0; ring 1; lies = own + before + behind - 2;");
        Checks.due("rule(0) of one alone", x.rule(0), 0x80);
        for (int bed : new int[] {-1, 1, 9, MIN, MAX}) {
            Checks.due("rule(" + bed + ")", x.rule(bed), -1);
        }
    }

    private static void promise20() {
        Checks.about("promise 20");
        PartedSide x = row("10", "begins 20; chills = if hour < 20 then 10 * hour else 0;");
        Checks.due("coldest(0)", x.coldest(0), 14);
        Checks.due("coldest(1), from the hour 10 on all are held to 100", x.coldest(1), 200);
        x = row("10", "begins 20; chills = hour;");
        Checks.due("coldest(0)", x.coldest(0), 3);
        Checks.due("coldest(1)", x.coldest(1), 46);
        x = row("10", "begins 20; chills = hour * (0 - 1);");
        Checks.due("coldest(0), all alike", x.coldest(0), 0);
        Checks.due("coldest(1)", x.coldest(1), 0);
        x = row("1000", "lies = before; chills = 7 * own * bed;");
        Checks.due("coldest(0), by how all lie then", x.coldest(0), 3);
        Checks.due("coldest(1)", x.coldest(1), 21);
        x = row("1", "chills = parted; parts = 4;");
        Checks.due("coldest(0), by partings then", x.coldest(0), 23);
        Checks.due("coldest(1)", x.coldest(1), 92);
        for (int what : new int[] {-1, 2, MIN, MAX}) {
            Checks.due("coldest(" + what + ")", x.coldest(what), -1);
        }
    }

    private static void run(String digits, String ring, int length, int first) {
        PartedSide x = row(digits, ring);
        Checks.due("run(0) of " + digits + " " + ring, x.run(0), length);
        Checks.due("run(1) of " + digits + " " + ring, x.run(1), first);
    }

    private static void promise21() {
        Checks.about("promise 21");
        run("", "ring 1;", 0, -2);
        run("1", "", 1, 0);
        run("1", "ring 1;", 1, 0);
        run("10", "", 1, 0);
        run("00", "ring 1;", 2, 0);
        run("110011", "", 2, 0);
        run("110011", "ring 1;", 4, 4);
        run("1001", "ring 1;", 2, 1);
        run("1001", "", 2, 1);
        run("000000000", "ring 1;", 9, 0);
        run("111111111", "", 9, 0);
        run("100010000", "", 4, 5);
        run("000010001", "", 4, 0);
        run("000010001", "ring 1;", 4, 0);
        run("001010000", "ring 1;", 6, 5);
        run("111111110", "ring 1;", 8, 0);
        run("011111111", "ring 1;", 8, 1);
        run("110111111", "ring 1;", 8, 3);
        PartedSide x = row("10", "");
        for (int what : new int[] {-1, 2, MIN, MAX}) {
            Checks.due("run(" + what + ")", x.run(what), -1);
        }
    }

    private static void promise22() {
        Checks.about("promise 22");
        Checks.due("nobody", row("", "ring 1;").unlike(), 0);
        Checks.due("1 in a ring", row("1", "ring 1;").unlike(), 0);
        Checks.due("10", row("10", "").unlike(), 1);
        Checks.due("10 in a ring", row("10", "ring 1;").unlike(), 1);
        Checks.due("100", row("100", "").unlike(), 1);
        Checks.due("100 in a ring", row("100", "ring 1;").unlike(), 2);
        Checks.due("101010101", row("101010101", "").unlike(), 8);
        Checks.due("101010101 in a ring", row("101010101", "ring 1;").unlike(), 8);
        Checks.due("10101010 in a ring", row("10101010", "ring 1;").unlike(), 8);
    }

    private static void promise23() {
        Checks.about("promise 23");
        PartedSide x = row("0000", "lies = before;");
        Checks.due("eden(1)", x.eden(1), 8);
        Checks.due("eden(2)", x.eden(2), 12);
        Checks.due("eden(24)", x.eden(24), 15);
        x = row("000000000", "ring 1; lies = before;");
        Checks.due("eden(24)", x.eden(24), 0);
        x = row("000000000", "lies = 0;");
        Checks.due("eden(1)", x.eden(1), 511);
        for (int n : new int[] {0, -1, 25, MIN, MAX}) {
            Checks.due("eden(" + n + ")", x.eden(n), -1);
        }
    }

    private static void promise24() {
        Checks.about("promise 24");
        // the whistle takes one from the left, the other gives one back
        PartedSide x = row("0110", "");
        Checks.due("duel(0, 0)", x.duel(0, 0), 2);
        Checks.due("duel(0, 1)", x.duel(0, 1), 1);
        x = row("000", "");
        Checks.due("duel(3, 0), one has to be whistled over", x.duel(3, 0), 2);
        Checks.due("duel(3, 1)", x.duel(3, 1), 0);
        // any turn beyond the best is harm, so nobody is turned
        x = row("10", "lies = 1 - before;");
        Checks.due("duel(1, 0)", x.duel(1, 0), 2);
        Checks.due("duel(1, 1)", x.duel(1, 1), 0);
        x = row("1", "");
        Checks.due("duel(0, 0)", x.duel(0, 0), 1);
        // a left one makes all behind it left, so whoever wishes most turns the first
        x = row("1000", "lies = own + before;");
        Checks.due("duel(4, 0)", x.duel(4, 0), 4);
        // one hour moves all on: who is whistled over matters only by where they lie
        x = row("1101", "lies = before;");
        Checks.due("duel(1, 0)", x.duel(1, 0), 2);
        Checks.due("duel(1, 1)", x.duel(1, 1), 0);
        x = row("0001", "lies = before;");
        Checks.due("duel(1, 0)", x.duel(1, 0), 1);
        Checks.due("duel(1, 1), the last one is lost anyway", x.duel(1, 1), 3);
        wrongOnes("duel", x);
        Checks.due("duel(25, 0) of nobody", new PartedSide().duel(25, 0), -1);
        Checks.due("duel(24, 0) of nobody", new PartedSide().duel(24, 0), -2);
    }

    private static int ask(String name, PartedSide x, int n, int what) {
        switch (name) {
            case "duel": return x.duel(n, what);
            case "sentry": return x.sentry(n, what);
            default: return x.worst(n, what);
        }
    }

    private static void wrongOnes(String name, PartedSide x) {
        int[][] wrong = {{-1, 0}, {25, 0}, {0, -1}, {0, 2}, {MIN, 0}, {MAX, 1}, {1, MIN}};
        for (int[] w : wrong) {
            Checks.due(name + "(" + w[0] + ", " + w[1] + ")", ask(name, x, w[0], w[1]), -1);
        }
        Checks.due(name + "(0, 0) of nobody", ask(name, new PartedSide(), 0, 0), -2);
        Checks.due(name + "(24, 1) of nobody", ask(name, new PartedSide(), 24, 1), -2);
    }

    private static void promise25() {
        Checks.about("promise 25");
        // all that lies left hangs on b: if b is safe, one is lost at worst, else all
        PartedSide x = row("01", "lies = own + before + behind;");
        Checks.due("sentry(0, 0), a safe loses b", x.sentry(0, 0), 1);
        Checks.due("sentry(0, 1)", x.sentry(0, 1), 2);
        x = row("010", "lies = if bed < 1 then own else before;");
        Checks.due("sentry(1, 0)", x.sentry(1, 0), 1);
        Checks.due("sentry(1, 1)", x.sentry(1, 1), 1);
        x = row("1111", "");
        Checks.due("sentry(5, 0), all alike", x.sentry(5, 0), 0);
        Checks.due("sentry(5, 1)", x.sentry(5, 1), 3);
        x = row("1", "lies = own;");
        Checks.due("sentry(2, 0) of one alone", x.sentry(2, 0), 0);
        Checks.due("sentry(2, 1)", x.sentry(2, 1), 1);
        wrongOnes("sentry", x);
    }

    private static void promise27() {
        Checks.about("promise 27");
        PartedSide x = row("101", "lies = 1 - own; parts = 1 + own; chills = 100;");
        Checks.due("shows(0)", x.shows(0), 0);
        Checks.due("shows(1)", x.shows(1), 2);
        Checks.due("shows(2)", x.shows(2), 3);
        Checks.due("shows(48)", x.shows(48), 3);
        x = row("101", "lies = 1 - own; parts = 2 - own;");
        Checks.due("shows(1)", x.shows(1), 2);
        Checks.due("shows(2)", x.shows(2), 0);
        x.hours(1);
        Checks.due("shows(0), from now on", x.shows(0), 2);
        for (int n : new int[] {-1, 49, MIN, MAX}) {
            Checks.due("shows(" + n + ")", x.shows(n), -1);
        }
    }

    private static void promise28() {
        Checks.about("promise 28");
        PartedSide x = row("011", "ring 1; lies = before;");
        Checks.due("still(0)", x.still(0), 2);
        Checks.due("still(1)", x.still(1), 7);
        x = row("01", "ring 1; lies = before;");
        Checks.due("still(1), of alike ones the least", x.still(1), 0);
        x = row("011", "");
        Checks.due("still(0)", x.still(0), 8);
        Checks.due("still(1)", x.still(1), 6);
        x = row("111111111", "lies = 0;");
        Checks.due("still(1), nine lie otherwise", x.still(1), 0);
        x = row("011", "lies = 1 - own;");
        Checks.due("still(0)", x.still(0), 0);
        Checks.due("still(1)", x.still(1), -2);
        x = row("0", "begins 22; lies = if hour < 23 then own else 1 - own;");
        Checks.due("still(0), at 22", x.still(0), 2);
        x.hours(1);
        Checks.due("still(0), at 23", x.still(0), 0);
        for (int what : new int[] {-1, 2, MIN, MAX}) {
            Checks.due("still(" + what + ")", x.still(what), -1);
        }
    }

    private static void promise29() {
        Checks.about("promise 29");
        Checks.due("stays", row("101", "").again(), 1);
        Checks.due("goes round", row("100000000", "ring 1; lies = before; chills = 100;").again(), 9);
        Checks.due("never", row("10", "lies = before;").again(), -2);
        // right for an hour, then left from -1 on until the parting is 119, and one hour more
        Checks.due("by partings", row("0", "lies = if parted < 119 then 1 else 0;").again(), 122);
        Checks.due("240", row("0", "lies = if parted < 237 then 1 else 0;").again(), 240);
        Checks.due("241", row("0", "lies = if parted < 238 then 1 else 0;").again(), -2);
    }

    private static void promise30() {
        Checks.about("promise 30");
        PartedSide x = row("0111", "lies = own * before;");
        // 0111 now; behind an hour 0011
        Checks.due("worst(0, 0)", x.worst(0, 0), 1);
        Checks.due("worst(0, 1)", x.worst(0, 1), 2);
        Checks.due("worst(1, 0)", x.worst(1, 0), 2);
        Checks.due("worst(1, 1)", x.worst(1, 1), 0);
        x = row("000", "");
        Checks.due("worst(9, 0), all alike", x.worst(9, 0), 0);
        Checks.due("worst(9, 1), one has to be whistled over", x.worst(9, 1), 1);
        wrongOnes("worst", x);
    }

    private static void promise31() {
        Checks.about("promise 31");
        // lies by habit where they sleep: a strong habit is best in the last bed, where it is asked for
        PartedSide x = Checks.told("sleeper a 0 9; sleeper b 0 0; sleeper c 0 0; lies = habit * (bed / 2); chills = 100;");
        Checks.due("changeBest(1, 0)", x.changeBest(1, 0), 2);
        Checks.due("changeBest(1, 1)", x.changeBest(1, 1), 1);
        Checks.due("changeBest(24, 1)", x.changeBest(24, 1), 24);
        x.change(0, 2);
        Checks.due("changeBest(1, 0), none is more", x.changeBest(1, 0), -2);
        Checks.due("changeBest(1, 1)", x.changeBest(1, 1), -2);
        // how they lie goes along: 1000 dies off slowest at its end that is behind
        x = row("0010", "lies = before;");
        Checks.due("changeBest(3, 0)", x.changeBest(3, 0), 2);
        Checks.due("changeBest(3, 1)", x.changeBest(3, 1), 3);
        // of alike ones the first
        x = row("0011", "lies = before;");
        Checks.due("changeBest(1, 0)", x.changeBest(1, 0), 3);
        Checks.due("changeBest(1, 1)", x.changeBest(1, 1), 2);
        // partings go along: bed 0 lies left by them
        x = Checks.told("sleeper a 0 0; sleeper b 1 0; lies = (1 - bed) * parted; parts = bed * 5;");
        x.hours(1);
        Checks.due("changeBest(1, 0)", x.changeBest(1, 0), 1);
        Checks.due("changeBest(2, 1)", x.changeBest(2, 1), 2);
        x = row("1", "");
        Checks.due("changeBest(1, 0) of one alone", x.changeBest(1, 0), -2);
        Checks.due("changeBest(1, 0) of nobody", new PartedSide().changeBest(1, 0), -2);
        int[][] wrong = {{0, 0}, {25, 0}, {-1, 1}, {1, -1}, {1, 2}, {MAX, 0}, {MIN, 0}};
        for (int[] w : wrong) {
            Checks.due("changeBest(" + w[0] + ", " + w[1] + ")", x.changeBest(w[0], w[1]), -1);
        }
    }

    private static void promise32() {
        Checks.about("promise 32");
        PartedSide x = Checks.told("sleeper a 1 0; sleeper b 0 2; parts = 3; chills = 100 * bed;");
        Checks.due("leave(0)", x.leave(0), 1);
        Checks.due("leave(1)", x.leave(1), -2);
        x = row("1", "");
        x.hours(1);
        x.turn(0);
        Checks.due("leave(0), from 1 to 0", x.leave(0), 1);
        x = row("10", "parts = 3;");
        x.hours(5);
        x.whistle();
        Checks.due("leave(0), from 15 down to 0", x.leave(0), 5);
        Checks.due("leave(1), from -15 up above 0", x.leave(1), 6);
        x = row("1", "parts = if parted < 1 then 4 else 1;");
        x.hours(1);
        for (int i = 0; i < 5; i++) {
            x.hours(47);
        }
        x.hours(1);
        x.turn(0);
        Checks.due("parting", x.sleeper(0, 2), 240);
        Checks.due("leave(0), 240 hours on", x.leave(0), 240);
        x.turn(0);
        x.hours(1);
        x.turn(0);
        Checks.due("leave(0), 241 hours on", x.leave(0), -2);
        for (int bed : new int[] {-1, 1, MIN, MAX}) {
            Checks.due("leave(" + bed + ")", x.leave(bed), -1);
        }
    }

    private static void promise33() {
        Checks.about("promise 33");
        // LOT 100 of seed 7 at the hour 0: 94 97 70 51 25, at the hour 1: 93 82 71 46 48
        PartedSide x = row("00001", "chills = 51; seed 7; parts = 4;");
        Checks.due("then(4, 0, 0)", x.then(4, 0, 0), 1);
        Checks.due("then(4, 1, 0), chilled", x.then(4, 1, 0), 0);
        Checks.due("then(4, 1, 1)", x.then(4, 1, 1), 4);
        Checks.due("then(4, 2, 0), chilled again", x.then(4, 2, 0), 1);
        Checks.due("then(4, 2, 1)", x.then(4, 2, 1), 0);
        Checks.due("then(3, 2, 0)", x.then(3, 2, 0), 1);
        Checks.due("then(0, 2, 1)", x.then(0, 2, 1), -8);
        Checks.due("then(0, 0, 2)", x.then(0, 0, 2), 1);
        Checks.due("then(0, 1, 2)", x.then(0, 1, 2), 0);
        Checks.due("then(0, 2, 2)", x.then(0, 2, 2), 2);
        for (int bed : new int[] {-1, 5, MIN, MAX}) {
            Checks.due("then(" + bed + ", 2, 2), the bed not looked at", x.then(bed, 2, 2), 2);
            Checks.due("then(" + bed + ", 2, 0)", x.then(bed, 2, 0), -100000);
            Checks.due("then(" + bed + ", 2, 1)", x.then(bed, 2, 1), -100000);
        }
        int[][] wrong = {{0, -1, 0}, {0, 49, 0}, {0, 49, 2}, {0, 0, 3}, {0, 0, -1}, {0, MIN, 1}, {0, MAX, 2}, {0, 1, MAX}};
        for (int[] w : wrong) {
            Checks.due("then(" + w[0] + ", " + w[1] + ", " + w[2] + ")", x.then(w[0], w[1], w[2]), -100000);
        }
        int row = 0;
        for (int bed = 0; bed < 5; bed++) {
            row += x.then(bed, 48, 0) << bed;
        }
        x.hours(48);
        Checks.due("count(3), as was told", x.count(3), row);
    }

    private static void promise34() {
        Checks.about("promise 34");
        // LOT 100 of the seeds 0 .. 19 at the hour 0 for the bed 0:
        // 90 48 95 81 90 27 49 94 64 82 94 13 3 97 89 12 2 45 34 54
        int[] due = {0, 1, 1, 1, 1, 2, 3, 3, 3, 3, 3, 4, 5, 5, 5, 6, 7, 8, 9, 9};
        PartedSide x = row("0", "chills = 50;");
        for (int s = 1; s <= 20; s++) {
            Checks.due("year(1, " + s + ")", x.year(1, s), due[s - 1]);
        }
        Checks.due("year(0, 20)", x.year(0, 20), 0);
        x.turn(0);
        Checks.due("year(0, 20)", x.year(0, 20), 20);
        x = row("0", "chills = 50; seed 6;");
        Checks.due("year(1, 1)", x.year(1, 1), 1);
        Checks.due("year(1, 14)", x.year(1, 14), 7);
        // of 9995 on: 46 90 13 60 26 89 32 49 13 87 89 56 12 13 46 73 15 55 93 59
        x = row("0", "chills = 50; seed 9995;");
        Checks.due("year(1, 20), seeds past 9999", x.year(1, 20), 10);
        x = row("01", "chills = 50;");
        Checks.due("year(48, 20) within 0 .. 20", x.year(48, 20) >= 0 && x.year(48, 20) <= 20, true);
        int[][] wrong = {{-1, 1}, {49, 1}, {0, 0}, {0, 21}, {0, -1}, {MIN, 1}, {MAX, 1}, {1, MAX}, {1, MIN}};
        for (int[] w : wrong) {
            Checks.due("year(" + w[0] + ", " + w[1] + ")", x.year(w[0], w[1]), -1);
        }
    }

    /** All these calls only tell: what goes on stays as it was. */
    private static void nothingHappens() {
        Checks.about("nothing happens");
        PartedSide x = row("1011", "ring 1; lies = before + behind - 1; chills = 30; parts = 2; begins 7;");
        x.turn(2);
        x.hours(3);
        int[] before = all(x);
        for (int n = 0; n <= 24; n += 6) {
            x.after(5, n);
            x.turned(n, 0);
            x.soonest(0);
            x.spread(1, n);
            x.leads(3, n, 0);
            x.turnTo(4, n);
            x.round(n, 0);
            x.rule(2);
            x.coldest(0);
            x.run(0);
            x.unlike();
            x.eden(n);
            x.duel(n, 0);
            x.sentry(n, 0);
            x.parting(0);
            x.shows(n);
            x.still(1);
            x.again();
            x.worst(n, 0);
            x.changeBest(n, 0);
            x.leave(1);
            x.then(0, n, 1);
            x.year(n, 5);
            x.lay(0, 0);
            x.look(0, n);
        }
        int[] behind = all(x);
        for (int i = 0; i < before.length; i++) {
            Checks.due("what stays " + i, behind[i], before[i]);
        }
    }

    private static int[] all(PartedSide x) {
        int[] all = new int[17 + 40];
        for (int what = 0; what < 17; what++) {
            all[what] = x.count(what);
        }
        for (int i = 0; i < 40; i++) {
            all[17 + i] = x.sleeper(i / 10, i % 10);
        }
        return all;
    }
}
