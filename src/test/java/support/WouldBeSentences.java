/** What would be, and promises 12 to 34: each sentence at its edges. */
final class WouldBeSentences {
    private static final int MIN = Integer.MIN_VALUE;
    private static final int MAX = Integer.MAX_VALUE;
    private static final int[] NO_PAIR = {-1, 2, 3, MIN, MAX};
    private static final int[] NO_DAY = {-1, 25, 26, 48, MIN, MAX};
    private static final int[] NO_TWO_DAYS = {-1, 49, 50, MIN, MAX};
    private static final String NINE = Checks.beds("000000000");
    // In a ring of seven beds 24 hours move a row by three beds, 48 hours by six.
    private static final String SEVEN = "ring 1; lies = before; costs = 1 + bed;";
    // From 0 on all stay as they are for 23 hours, and lie right behind 24.
    private static final String UNTIL_23 = "lies = if hour < 23 then own else 0;";
    private static final String AT_23 = "lies = if hour < 23 then own else 1;";
    private final Sentence sentence;

    WouldBeSentences(Sentence sentence) {
        this.sentence = sentence;
    }

    void check() {
        sentence.in("Terms");
        nothingHappens();
        aRow();
        after();
        turn();
        soonest();
        spread();
        leads();
        to();
        round();
        rule();
        coldest();
        run();
        unlike();
        eden();
        duel();
        sentry();
        show();
        still();
        again();
        whistle();
        change();
        leave();
        inHours();
        year();
        promises12To19();
        promises20To25();
        promises26To30();
        promises31To34();
    }

    private static PartedSide row(String digits, String more) {
        return Checks.row(digits, more);
    }

    private void nothingHappens() {
        sentence.of("What would be (nothing happens, nobody CHILLED but in HOURS).");
        PartedSide x = row("1011", "ring 1; lies = before + behind - 1; chills = 30; parts = 2; begins 7;");
        x.turn(2);
        x.hours(3);
        x.tell(1, 1, true);
        String before = Checks.seen(x);
        for (int n = 0; n <= 24; n += 8) {
            askAll(x, n);
        }
        Checks.same("nothing happened", Checks.seen(x), before);
        x = row("10", "chills = 100; costs = 7; parts = 1 + own;");
        Checks.due("after", x.after(1, 1), 1);
        Checks.due("turned", x.turned(1, 1), 2);
        Checks.due("soonest", x.soonest(0), 0);
        Checks.due("spread", x.spread(0, 1), 1);
        Checks.due("leads", x.leads(1, 1, 1), 1);
        Checks.due("turnTo", x.turnTo(1, 1), 0);
        Checks.due("round", x.round(3, 0), 1);
        Checks.due("rule", x.rule(0), 170);
        Checks.due("eden", x.eden(1), 0);
        Checks.due("duel", x.duel(1, 0), 1);
        Checks.due("sentry", x.sentry(1, 0), 0);
        Checks.due("shows", x.shows(2), 1);
        Checks.due("still", x.still(1), 1);
        Checks.due("again", x.again(), 1);
        Checks.due("worst", x.worst(1, 1), 0);
        Checks.due("changeBest", x.changeBest(1, 0), -2);
        Checks.due("leave", x.leave(1), -2);
        PartedSide two = Checks.told("sleeper a 0 1; sleeper b 0 0; lies = habit * bed; chills = 100 * bed;");
        Checks.due("changeBest", two.changeBest(1, 0), 1);
        Checks.due("count(6)", x.count(6), 1);
        Checks.due("sleeper(0, 5)", x.sleeper(0, 5), 1);
        Checks.due("lay", told(x).lay(1, 1), 1);
        Checks.due("then, with CHILLS", x.then(0, 1, 0), 0);
        Checks.due("year, with CHILLS", row("00", "chills = 100;").year(1, 3), 3);
        x = row("1000", "chills = 100 * own; lies = before;");
        Checks.due("coldest, by how all lie then", x.coldest(1), 100);
    }

    private static PartedSide told(PartedSide x) {
        x.tell(0, 1, true);
        return x;
    }

    private static void askAll(PartedSide x, int n) {
        for (int what = 0; what <= 1; what++) {
            x.turned(n, what);
            x.soonest(what);
            x.leads(3, n, what);
            x.round(n, what);
            x.coldest(what);
            x.run(what);
            x.duel(n, what);
            x.sentry(n, what);
            x.parting(what);
            x.still(what);
            x.worst(n, what);
            x.changeBest(n, what);
            x.then(0, n, what);
            x.lay(1, what);
        }
        x.after(5, n);
        x.spread(1, n);
        x.turnTo(4, n);
        x.rule(2);
        x.unlike();
        x.eden(n);
        x.shows(n);
        x.again();
        x.leave(1);
        x.year(n, 5);
        x.look(1, n);
    }

    private void aRow() {
        sentence.of("A ROW: how all lie, as bits (bit b: BED b LEFT).");
        for (int bed = 0; bed < 9; bed++) {
            PartedSide x = Checks.told(NINE + "lies = 1 - own;");
            x.turn(bed);
            Checks.due("count(3)", x.count(3), 1 << bed);
            Checks.due("after(.., 1)", x.after(1 << bed, 1), 511 - (1 << bed));
        }
    }

    private void after() {
        sentence.of("AFTER n hours (0 .. 48): the ROW, did all lie now as a ROW told.");
        PartedSide x = row("0000000", SEVEN);
        Checks.due("after(5, 0)", x.after(5, 0), 5);
        Checks.due("after(5, 1)", x.after(5, 1), 10);
        Checks.due("after(5, 47)", x.after(5, 47), 32 + 1);
        Checks.due("after(5, 48)", x.after(5, 48), 64 + 2);
        Checks.due("after(127, 48)", x.after(127, 48), 127);
        Checks.due("after(0, 48)", x.after(0, 48), 0);
        Checks.due("by beds alone, hour by hour", Checks.told(NINE + "lies = bed / 8;").after(255, 3), 256);
        Checks.due("by beds alone, the first", Checks.told(NINE + "lies = 1 - bed;").after(510, 48), 1);
        // The hour and the partings are those of now.
        x = row("00", "begins 22; lies = if hour < 23 then own else 1 - own;");
        Checks.due("after(2, 1)", x.after(2, 1), 2);
        Checks.due("after(2, 2)", x.after(2, 2), 1);
        Checks.due("after(2, 26)", x.after(2, 26), 2);
        x = row("10", "lies = if hour < 3 then own else parted + 2;");
        x.hours(3);
        Checks.due("after(0, 1), by partings 3 and -3", x.after(0, 1), 1);
        Checks.due("after(3, 1)", x.after(3, 1), 1);
    }

    /** All of three lie left next if a and b do now, or c does. */
    private static final String PAIR_OR_LAST = "ring 1; lies = if bed < 1 then own * behind + before else if bed < 2 then own * before "
        + "+ behind else before * behind + own;";

    private void turn() {
        sentence.of("TURN for n hours (0 .. 24): the set of SLEEPERS for whom COSTS of all TURNED now, added, is least, so that, these "
            + "TURNED now, all lie LEFT behind n hours; of alike ones the fewest, then the least bits.");
        PartedSide x = row("0110", "costs = 1 + bed;");
        turned(x, 0, 5, 9);
        turned(x, 24, 5, 9);
        x = row("00", AT_23);
        turned(x, 24, 0, 0);
        turned(x, 23, 2, 3);
        x = row("000", PAIR_OR_LAST + "costs = 1 + 2 * (bed / 2);");
        turned(x, 1, 2, 3);
        x = row("000", PAIR_OR_LAST + "costs = 1 + bed / 2;");
        turned(x, 1, 2, 4);
        x = row("000", PAIR_OR_LAST + "costs = 0;");
        turned(x, 1, 0, 4);
        x = row("0000", "ring 1; lies = own + before; costs = 5;");
        turned(x, 3, 5, 1);
        turned(x, 1, 10, 5);
        x = row("0000", "ring 1; lies = own + before; costs = 5 - bed;");
        turned(x, 3, 2, 8);
        x = row("1111", "costs = 0;");
        turned(x, 9, 0, 0);
        x = row("011111110", "costs = 1 + bed;");
        turned(x, 24, 10, 257);
        // Nobody lies beyond the last bed.
        turned(row("0", "lies = behind;"), 1, -2, -2);
        turned(row("0", "lies = before;"), 1, -2, -2);
        // COSTS are of now, as all lie before anyone is turned.
        x = row("00", "costs = 4 + 9 * (before + behind + own);");
        turned(x, 0, 8, 3);
        x = row("11", "lies = 1 - own; costs = 4 + 9 * (before + behind + own);");
        turned(x, 1, 44, 3);
    }

    private static void turned(PartedSide x, int n, int cost, int who) {
        Checks.due("turned(" + n + ", 0)", x.turned(n, 0), cost);
        Checks.due("turned(" + n + ", 1)", x.turned(n, 1), who);
    }

    private void soonest() {
        sentence.of("SOONEST: the first n (0 .. 24) for which nobody, or one alone, TURNED now, is enough for that, whatever it COSTS; "
            + "who: nobody, if that is enough, else the first.");
        soonest(row("11", "lies = 0;"), 0, -3);
        soonest(row("10", "costs = 99;"), 0, 1);
        soonest(row("01", "costs = 99;"), 0, 0);
        soonest(row("00", AT_23), 24, -3);
        soonest(row("00", "begins 1; " + AT_23), 23, -3);
        // Partings are -23 behind 23 hours, so that all lie left behind 24; the other way an hour later, which is too late.
        soonest(row("00", "lies = if parted < 0 - 22 then 1 else 0;"), 24, -3);
        soonest(row("00", "lies = if parted < 0 - 23 then 1 else 0;"), -2, -2);
        soonest(row("0000", "ring 1; lies = own + before; costs = 99;"), 3, 0);
        soonest(row("00000", "lies = own + before + behind;"), 2, 2);
        soonest(row("1100", "lies = 1 - own;"), -2, -2);
        soonest(row("100", "lies = 1 - own;"), 1, 0);
        soonest(row("000", "lies = 1 - own;"), 1, -3);
        soonest(row("000", "lies = own;"), -2, -2);
        soonest(row("00", "lies = if bed < 1 then 1 else behind;"), -2, -2);
        soonest(row("00", "lies = if bed < 1 then before else 1;"), -2, -2);
        soonest(row("111111110", ""), 0, 8);
        soonest(new PartedSide(), 0, -3);
    }

    private static void soonest(PartedSide x, int n, int who) {
        Checks.due("soonest(0)", x.soonest(0), n);
        Checks.due("soonest(1)", x.soonest(1), who);
    }

    private void spread() {
        sentence.of("SPREAD of one, n hours (0 .. 24): who would lie otherwise behind them, were that one TURNED now.");
        PartedSide x = row("1010000", SEVEN);
        Checks.due("spread(1, 0)", x.spread(1, 0), 2);
        Checks.due("spread(0, 0)", x.spread(0, 0), 1);
        Checks.due("spread(1, 1)", x.spread(1, 1), 4);
        Checks.due("spread(6, 1)", x.spread(6, 1), 1);
        Checks.due("spread(1, 24)", x.spread(1, 24), 16);
        Checks.due("spread(1, 23)", x.spread(1, 23), 8);
        x = row("0000000", "lies = own + before + behind;");
        Checks.due("spread(3, 2)", x.spread(3, 2), 2 + 4 + 8 + 16 + 32);
        Checks.due("spread(0, 24)", x.spread(0, 24), 127);
        x = row("0100000", "lies = own + before + behind;");
        Checks.due("spread(3, 3), where all lie left anyway", x.spread(3, 3), 32 + 64);
        Checks.due("spread(3, 24), nobody", x.spread(3, 24), 0);
    }

    private void leads() {
        sentence.of("LEADS of a ROW, n hours (0 .. 24): how many ROWS, lying so now, lie so behind them; the least.");
        PartedSide x = row("0000000", SEVEN);
        leads(x, 5, 0, 1, 5);
        leads(x, 127, 0, 1, 127);
        leads(x, 5, 1, 1, 64 + 2);
        leads(x, 8, 24, 1, 1);
        leads(x, 8, 23, 1, 2);
        x = row("000", "lies = before;");
        leads(x, 4, 1, 2, 2);
        leads(x, 4, 2, 4, 1);
        leads(x, 0, 3, 8, 0);
        leads(x, 0, 24, 8, 0);
        leads(x, 4, 3, 0, -2);
        leads(x, 1, 1, 0, -2);
        x = row("11", UNTIL_23);
        leads(x, 3, 23, 1, 3);
        leads(x, 3, 24, 0, -2);
        leads(x, 0, 24, 4, 0);
    }

    private static void leads(PartedSide x, int row, int n, int howMany, int least) {
        Checks.due("leads(" + row + ", " + n + ", 0)", x.leads(row, n, 0), howMany);
        Checks.due("leads(" + row + ", " + n + ", 1)", x.leads(row, n, 1), least);
    }

    private void to() {
        sentence.of("TO a ROW, n hours (0 .. 24): the least COSTS of all TURNED now, added, so that all lie so behind them.");
        PartedSide x = row("0000000", SEVEN);
        Checks.due("turnTo(0, 0)", x.turnTo(0, 0), 0);
        Checks.due("turnTo(127, 0)", x.turnTo(127, 0), 28);
        Checks.due("turnTo(8, 24)", x.turnTo(8, 24), 1);
        Checks.due("turnTo(8, 23)", x.turnTo(8, 23), 2);
        x = row("011", "lies = before; costs = 10 + bed;");
        Checks.due("turnTo(6, 0)", x.turnTo(6, 0), 0);
        Checks.due("turnTo(1, 0)", x.turnTo(1, 0), 33);
        Checks.due("turnTo(2, 1)", x.turnTo(2, 1), 21);
        Checks.due("turnTo(0, 24)", x.turnTo(0, 24), 0);
        Checks.due("turnTo(1, 1)", x.turnTo(1, 1), -2);
        // The cheapest of several, not the fewest.
        x = row("000", PAIR_OR_LAST + "costs = 1 + 2 * (bed / 2);");
        Checks.due("turnTo(7, 1)", x.turnTo(7, 1), 2);
        x = row("00", "costs = 4 + 9 * (before + behind + own);");
        Checks.due("turnTo(3, 0), as of now", x.turnTo(3, 0), 8);
        x = row("000000000", "costs = 1 + bed;");
        Checks.due("turnTo(511, 24) of nine", x.turnTo(511, 24), 45);
    }

    private void round() {
        sentence.of("ROUND for n hours (1 .. 48): ahead of each of them all who lie RIGHT are TURNED: how many, added; what it COSTS, "
            + "added, as of each hour.");
        PartedSide x = row("1000", "lies = 0; costs = 2;");
        round(x, 1, 3, 6);
        round(x, 2, 7, 14);
        round(x, 47, 187, 374);
        round(x, 48, 191, 382);
        // As of each hour: by its hour of the day, and by partings that grow as they lie left.
        round(row("0", "lies = 0; costs = hour; begins 22;"), 4, 4, 22 + 23 + 0 + 1);
        round(row("0", "lies = 0; costs = 1 + parted; parts = 3;"), 3, 3, 1 + 4 + 7);
        round(row("10", "lies = before; costs = 10 + own + before;"), 1, 1, 11);
        round(row("10", "lies = before; costs = 10 + own + before;"), 2, 2, 21);
        round(row("11", ""), 48, 0, 0);
        round(new PartedSide(), 48, 0, 0);
    }

    private static void round(PartedSide x, int n, int howMany, int cost) {
        Checks.due("round(" + n + ", 0)", x.round(n, 0), howMany);
        Checks.due("round(" + n + ", 1)", x.round(n, 1), cost);
    }

    private void rule() {
        sentence.of("RULE of a BED: how LIES tells now, were own, before, behind each 0 or 1 (case own + 2 * before + 4 * behind, "
            + "0 .. 7; whoever lies beside): the cases with LEFT.");
        String[] laws = {"own", "before", "behind", "own * before * behind", "1 - own - before - behind", "1", "0", "own - before + behind - 1"};
        int[] due = {170, 204, 240, 128, 1, 255, 0, 32};
        for (int i = 0; i < laws.length; i++) {
            for (String ring : new String[] {"ring 0;", "ring 1;"}) {
                PartedSide x = row("101", ring + "lies = " + laws[i] + ";");
                for (int bed = 0; bed < 3; bed++) {
                    Checks.due("rule(" + bed + ") by " + laws[i], x.rule(bed), due[i]);
                }
                Checks.due("rule(0) of one alone by " + laws[i], row("1", ring + "lies = " + laws[i] + ";").rule(0), due[i]);
            }
        }
        PartedSide x = Checks.told("sleeper a 1 3; sleeper b 1 5; cold 1 7; begins 23;"
            + "lies = if habit < 4 then own * (hour / 23) else if draft < 7 then 1 else if parted < 1 then before else many - 1;");
        Checks.due("rule(0), at 23", x.rule(0), 170);
        Checks.due("rule(1), by a parting of 0", x.rule(1), 204);
        x.hours(1);
        Checks.due("rule(0), at 0", x.rule(0), 0);
        Checks.due("rule(1), by a parting of 1", x.rule(1), 255);
        x.change(0, 1);
        Checks.due("rule(0), of who is there now, by its cold", x.rule(0), 255);
        Checks.due("rule(1)", x.rule(1), 0);
    }

    private void coldest() {
        sentence.of("COLDEST: of the next 24 hours the first, this one 0, in which CHILLS of all, added, are most, by how all lie then; "
            + "how much.");
        coldest(row("11", "chills = 9;"), 0, 18);
        coldest(row("11", "chills = 0;"), 0, 0);
        coldest(row("11", "chills = hour;"), 23, 46);
        coldest(row("11", "chills = hour; begins 1;"), 22, 46);
        coldest(row("11", "chills = if hour < 1 then 5 else 0; begins 1;"), 23, 10);
        coldest(row("11", "chills = hour * 50;"), 2, 200);
        coldest(row("1", "chills = if parted < 23 then 0 else 7;"), 23, 7);
        coldest(row("1", "chills = if parted < 24 then 0 else 7;"), 0, 0);
        coldest(row("1000", "lies = before; chills = 7 * own * bed;"), 3, 21);
        coldest(row("111", "chills = 10 * bed; lies = 0;"), 0, 30);
        coldest(new PartedSide(), 0, 0);
    }

    private static void coldest(PartedSide x, int hour, int chills) {
        Checks.due("coldest(0)", x.coldest(0), hour);
        Checks.due("coldest(1)", x.coldest(1), chills);
    }

    private void run() {
        sentence.of("RUN: the most BEDS, one beside the other (by the RING, too), in which all lie alike; the first BED of the first "
            + "such run (all alike in a RING: 0).");
        runs("1", 1, 0, 1, 0);
        runs("0", 1, 0, 1, 0);
        runs("10", 1, 0, 1, 0);
        runs("00", 2, 0, 2, 0);
        runs("011", 2, 1, 2, 1);
        runs("110", 2, 0, 2, 0);
        runs("101", 1, 0, 2, 2);
        runs("1001", 2, 1, 2, 1);
        runs("0100", 2, 2, 3, 2);
        runs("0010", 2, 0, 3, 3);
        runs("110011", 2, 0, 4, 4);
        runs("000110100", 3, 0, 5, 7);
        runs("010101010", 1, 0, 2, 8);
        runs("000000000", 9, 0, 9, 0);
        runs("111111111", 9, 0, 9, 0);
        runs("111111110", 8, 0, 8, 0);
        runs("011111111", 8, 1, 8, 1);
        runs("111101111", 4, 0, 8, 5);
        runs("100010001", 3, 1, 3, 1);
    }

    private static void runs(String digits, int length, int first, int inRing, int firstInRing) {
        PartedSide x = row(digits, "ring 0;");
        Checks.due("run(0) of " + digits, x.run(0), length);
        Checks.due("run(1) of " + digits, x.run(1), first);
        x = row(digits, "ring 1;");
        Checks.due("run(0) of " + digits + " in a ring", x.run(0), inRing);
        Checks.due("run(1) of " + digits + " in a ring", x.run(1), firstInRing);
    }

    private void unlike() {
        sentence.of("UNLIKE: how many pairs beside each other lie unlike (two BEDS in a RING: one pair).");
        String[] digits = {"", "1", "10", "01", "11", "100", "010", "101", "1010", "101010101", "000000001", "100000000", "110011001"};
        int[] open = {0, 0, 1, 1, 0, 1, 2, 2, 3, 8, 1, 1, 4};
        int[] ring = {0, 0, 1, 1, 0, 2, 2, 2, 4, 8, 2, 2, 4};
        for (int i = 0; i < digits.length; i++) {
            Checks.due("unlike() of " + digits[i], row(digits[i], "ring 0;").unlike(), open[i]);
            Checks.due("unlike() of " + digits[i] + " in a ring", row(digits[i], "ring 1;").unlike(), ring[i]);
        }
    }

    private void eden() {
        sentence.of("EDEN for n hours (1 .. 24): how many ROWS no ROW, now, LEADS to.");
        PartedSide x = row("0000", "lies = before;");
        Checks.due("eden(1)", x.eden(1), 8);
        Checks.due("eden(2)", x.eden(2), 12);
        Checks.due("eden(4)", x.eden(4), 15);
        Checks.due("eden(24)", x.eden(24), 15);
        x = row("00", UNTIL_23);
        Checks.due("eden(23)", x.eden(23), 0);
        Checks.due("eden(24)", x.eden(24), 3);
        Checks.due("all of nine reached", Checks.told(NINE).eden(24), 0);
        Checks.due("one of nine reached", Checks.told(NINE + "lies = 1;").eden(1), 511);
        Checks.due("nobody beyond the last bed", row("0", "lies = behind;").eden(1), 1);
        Checks.due("nobody ahead of the first bed", row("0", "lies = before;").eden(1), 1);
        Checks.due("nobody there", new PartedSide().eden(1), 0);
    }

    private void duel() {
        sentence.of("DUEL for n hours (0 .. 24): one is WHISTLED over (TURNED) now, by whoever wishes fewest LEFT behind n hours, then "
            + "one, or nobody, TURNED by whoever wishes most: how many lie LEFT then; who is WHISTLED, of alike ones the first.");
        duel(row("0", ""), 0, 1, 0);
        duel(row("1", ""), 0, 1, 0);
        duel(row("110", ""), 0, 2, 0);
        duel(row("011", ""), 0, 2, 1);
        duel(row("000", ""), 5, 2, 0);
        duel(row("111", ""), 24, 3, 0);
        duel(row("11", UNTIL_23), 23, 2, 0);
        duel(row("11", UNTIL_23), 24, 0, 0);
        duel(row("0001", "lies = before;"), 1, 1, 3);
        duel(row("01", "lies = 1 - own;"), 1, 1, 0);
        duel(row("111111111", ""), 0, 9, 0);
    }

    private static void duel(PartedSide x, int n, int howMany, int who) {
        Checks.due("duel(" + n + ", 0)", x.duel(n, 0), howMany);
        Checks.due("duel(" + n + ", 1)", x.duel(n, 1), who);
    }

    private void sentry() {
        sentence.of("SENTRY for n hours (0 .. 24): the one who, if he alone could not be TURNED by a WHISTLE, has most LEFT behind them "
            + "at the worst; of alike ones the first; how many.");
        sentry(row("01", ""), 0, 1, 2);
        sentry(row("10", ""), 0, 0, 2);
        sentry(row("00", ""), 0, 0, 1);
        sentry(row("110", ""), 0, 0, 1);
        sentry(row("001", ""), 24, 2, 2);
        sentry(row("01", UNTIL_23), 23, 1, 2);
        sentry(row("01", UNTIL_23), 24, 0, 0);
        sentry(row("01", AT_23), 24, 0, 2);
        sentry(row("111111111", ""), 3, 0, 8);
        // b alone holds the whole row
        sentry(row("010", "lies = own + before + behind;"), 1, 1, 3);
        sentry(row("000000001", ""), 0, 8, 2);
        sentry(row("000000000", "lies = 1;"), 1, 0, 9);
    }

    private static void sentry(PartedSide x, int n, int who, int howMany) {
        Checks.due("sentry(" + n + ", 0)", x.sentry(n, 0), who);
        Checks.due("sentry(" + n + ", 1)", x.sentry(n, 1), howMany);
    }

    private void show() {
        sentence.of("SHOW behind n hours (0 .. 48): how many PARTINGS do.");
        PartedSide x = row("101", "");
        Checks.due("shows(0)", x.shows(0), 0);
        Checks.due("shows(1)", x.shows(1), 2);
        x.hours(1);
        Checks.due("shows(0), of now", x.shows(0), 2);
        x.whistle();
        Checks.due("shows(1), back at 0", x.shows(1), 0);
        Checks.due("shows(2)", x.shows(2), 1);
        // -1 behind 24 hours, 1 behind 48
        x = row("0", "lies = if hour < 23 then own else 1; parts = (hour / 23) * (1 + own);");
        Checks.due("shows(47)", x.shows(47), 0);
        Checks.due("shows(48)", x.shows(48), 1);
    }

    private void still() {
        sentence.of("STILL: how many ROWS would be the same in the next hour; the one nearest to how all lie (fewest otherwise), of "
            + "alike ones the least bits.");
        still(row("011", "ring 1; lies = before;"), 2, 7);
        still(row("001", "ring 1; lies = before;"), 2, 0);
        still(row("01", "ring 1; lies = before;"), 2, 0);
        still(row("10", "ring 1; lies = before;"), 2, 0);
        still(row("011", ""), 8, 6);
        still(row("011", "lies = 1 - own;"), 0, -2);
        still(row("111111111", "lies = 0;"), 1, 0);
        still(row("000000000", "lies = 1;"), 1, 511);
        still(row("0", "begins 22; " + UNTIL_23), 2, 0);
        still(row("1", "begins 23; " + UNTIL_23), 1, 0);
        still(new PartedSide(), 1, 0);
    }

    private static void still(PartedSide x, int howMany, int nearest) {
        Checks.due("still(0)", x.still(0), howMany);
        Checks.due("still(1)", x.still(1), nearest);
    }

    private void again() {
        sentence.of("AGAIN: behind how many hours (1 .. 240) the ROW is as now.");
        Checks.due("stays", row("101", "").again(), 1);
        Checks.due("to and fro", row("101", "lies = 1 - own;").again(), 2);
        Checks.due("goes round", row("100000000", "ring 1; lies = before;").again(), 9);
        Checks.due("never", row("10", "lies = before;").again(), -2);
        // right, then left from -1 on until the parting is n, and one hour more
        Checks.due("behind 239", row("0", "lies = if parted < 236 then 1 else 0;").again(), 239);
        Checks.due("behind 240", row("0", "lies = if parted < 237 then 1 else 0;").again(), 240);
        Checks.due("behind 241", row("0", "lies = if parted < 238 then 1 else 0;").again(), -2);
        Checks.due("nobody there", new PartedSide().again(), 1);
    }

    private void whistle() {
        sentence.of("WHISTLE for n hours (0 .. 24): the one who, TURNED now, leaves fewest LEFT behind them; of alike ones the first; "
            + "how many.");
        worst(row("0111", ""), 0, 1, 2);
        worst(row("0111", "lies = own * before;"), 1, 2, 0);
        worst(row("000", ""), 24, 0, 1);
        worst(row("111", UNTIL_23), 23, 0, 2);
        worst(row("111", UNTIL_23), 24, 0, 0);
        worst(row("001", AT_23), 23, 2, 0);
        worst(row("001", AT_23), 24, 0, 3);
        worst(row("000000001", ""), 0, 8, 0);
        worst(row("111111111", ""), 0, 0, 8);
        worst(row("0", ""), 0, 0, 1);
    }

    private static void worst(PartedSide x, int n, int who, int howMany) {
        Checks.due("worst(" + n + ", 0)", x.worst(n, 0), who);
        Checks.due("worst(" + n + ", 1)", x.worst(n, 1), howMany);
    }

    private void change() {
        sentence.of("CHANGE for n hours (1 .. 24): the two who, having changed BEDS now, lie LEFT most behind each of them, all SLEEPERS "
            + "added, more than else; of alike ones the first.");
        PartedSide x = Checks.told("sleeper a 0 1; sleeper b 0 0; lies = habit * bed;");
        changed(x, 1, 1, 1);
        changed(x, 23, 1, 23);
        changed(x, 24, 1, 24);
        x.change(0, 1);
        changed(x, 1, -2, -2);
        changed(x, 24, -2, -2);
        changed(row("01", "lies = before;"), 1, 1, 1);
        changed(row("01", "lies = before;"), 2, 1, 1);
        changed(row("0011", "lies = before;"), 1, 3, 2);
        changed(row("0010", "lies = before;"), 3, 2, 3);
        // The last two of nine, by their habits alone; and the first and the last.
        changed(Checks.told(Checks.beds("0000000") + "sleeper x 0 1; sleeper y 0 0; lies = habit * (bed / 8);"), 2, 78, 2);
        changed(Checks.told("sleeper x 0 1;" + Checks.beds("00000000") + "lies = habit * (bed / 8);"), 2, 8, 2);
        // Alike is not more.
        changed(row("10", "lies = own;"), 5, -2, -2);
        changed(row("11", "lies = 1;"), 5, -2, -2);
        // Partings go along.
        x = row("01", "lies = if bed < 1 then parted else 0;");
        x.hours(1);
        changed(x, 1, 1, 1);
    }

    private static void changed(PartedSide x, int n, int two, int howMuch) {
        Checks.due("changeBest(" + n + ", 0)", x.changeBest(n, 0), two);
        Checks.due("changeBest(" + n + ", 1)", x.changeBest(n, 1), howMuch);
    }

    private void leave() {
        sentence.of("LEAVE of one: behind how many hours (1 .. 240) their PARTING SHOWS, if it does not now, or does not, if it does now "
            + "(it SHOWS if it is more than 0).");
        PartedSide x = row("10", "parts = 3;");
        Checks.due("from 0 up", x.leave(0), 1);
        Checks.due("from 0 down", x.leave(1), -2);
        x.hours(5);
        Checks.due("from 15 up", x.leave(0), -2);
        x.whistle();
        Checks.due("from 15 down to 0", x.leave(0), 5);
        Checks.due("from -15 up above 0", x.leave(1), 6);
        x = row("1", "");
        x.hours(1);
        x.turn(0);
        Checks.due("from 1 to 0", x.leave(0), 1);
        x.turn(0);
        for (int i = 0; i < 5; i++) {
            x.hours(48);
        }
        x.turn(0);
        Checks.due("the parting", x.sleeper(0, 2), 241);
        Checks.due("from 241 down", x.leave(0), -2);
        x.hours(1);
        Checks.due("from 240 down", x.leave(0), 240);
        x.hours(1);
        Checks.due("from 239 down", x.leave(0), 239);
        x = row("0", "");
        for (int i = 0; i < 5; i++) {
            x.hours(48);
        }
        x.turn(0);
        Checks.due("from -240 up", x.leave(0), -2);
        x.hours(1);
        Checks.due("from -239 up", x.leave(0), 240);
        x = row("1", "parts = 0;");
        Checks.due("never", x.leave(0), -2);
    }

    private void inHours() {
        sentence.of("IN n HOURS (0 .. 48; with CHILLS): how one lies; PARTING; how many lie LEFT.");
        PartedSide x = row("10", "chills = 100; parts = 2;");
        then(x, 0, 1, 0, 1);
        then(x, 1, 0, 2, 1);
        then(x, 47, 0, 2, 1);
        then(x, 48, 1, 0, 1);
        x = row("111", "lies = 0; parts = 1; begins 23; chills = if hour < 23 then 100 else 0;");
        then(x, 1, 0, 1, 0);
        then(x, 2, 1, 0, 3);
        x = Checks.told(NINE + "seed 77; begins 3; chills = 40; lies = before;");
        int[] left = new int[9];
        for (int bed = 0; bed < 9; bed++) {
            left[bed] = x.then(bed, 48, 0);
        }
        int all = x.then(0, 48, 2);
        x.hours(48);
        for (int bed = 0; bed < 9; bed++) {
            Checks.due("as it came to be, bed " + bed, left[bed], x.sleeper(bed, 0));
        }
        Checks.due("as many", all, x.count(4));
    }

    /** Of who lies in bed 0. */
    private static void then(PartedSide x, int n, int left, int parting, int all) {
        Checks.due("then(0, " + n + ", 0)", x.then(0, n, 0), left);
        Checks.due("then(0, " + n + ", 1)", x.then(0, n, 1), parting);
        Checks.due("then(0, " + n + ", 2)", x.then(0, n, 2), all);
    }

    private void year() {
        sentence.of("YEAR by s SEEDS (1 .. 20) from the text's SEED on: in how many of them all lie LEFT in n HOURS (0 .. 48).");
        for (int seed : new int[] {0, 6, 9980, 9999}) {
            PartedSide x = row("0", "chills = 50; seed " + seed + ";");
            int due = 0;
            for (int s = 1; s <= 20; s++) {
                due += HourSentences.lot(100, seed + s - 1, 0) < 50 ? 1 : 0;
                Checks.due("year(1, " + s + ") from " + seed + " on", x.year(1, s), due);
            }
            Checks.due("year(0, 20)", x.year(0, 20), 0);
            x.turn(0);
            Checks.due("year(0, 20), all left", x.year(0, 20), 20);
            Checks.due("year(0, 1)", x.year(0, 1), 1);
        }
        PartedSide x = row("11", "chills = 100;");
        Checks.due("year(47, 20)", x.year(47, 20), 0);
        Checks.due("year(48, 20)", x.year(48, 20), 20);
        x = row("10", "chills = 100;");
        Checks.due("year(48, 20), not all", x.year(48, 20), 0);
        Checks.due("nobody there", new PartedSide().year(48, 20), 20);
    }

    private static void none(String call, int got) {
        Checks.due(call, got, -1);
    }

    private void promises12To19() {
        PartedSide x = row("0110", "lies = before; costs = 1 + bed;");
        sentence.in("Promise 12");
        sentence.of("AFTER; NONE: no such ROW, no such n.");
        Checks.due("after(15, 1)", x.after(15, 1), 14);
        Checks.due("after(0, 48)", x.after(0, 48), 0);
        for (int row : new int[] {-1, 16, 17, 512, MIN, MAX}) {
            none("after(" + row + ", 0)", x.after(row, 0));
        }
        for (int n : NO_TWO_DAYS) {
            none("after(0, " + n + ")", x.after(0, n));
        }
        Checks.due("after(511, 0) of nine", Checks.told(NINE).after(511, 0), 511);
        none("after(512, 0) of nine", Checks.told(NINE).after(512, 0));
        none("after(1, 0) of nobody", new PartedSide().after(1, 0));
        Checks.due("after(0, 0) of nobody", new PartedSide().after(0, 0), 0);
        sentence.in("Promise 13");
        sentence.of("TURN: what 0 COSTS, 1 who (bits); -2: not by all; NONE: no such ones.");
        turned(x, 0, 5, 9);
        turned(x, 1, -2, -2);
        turned(new PartedSide(), 24, 0, 0);
        for (int n : NO_DAY) {
            none("turned(" + n + ", 0)", x.turned(n, 0));
            none("turned(" + n + ", 1)", x.turned(n, 1));
        }
        for (int what : NO_PAIR) {
            none("turned(0, " + what + ")", x.turned(0, what));
            none("turned(1, " + what + ")", x.turned(1, what));
        }
        sentence.in("Promise 14");
        sentence.of("SOONEST: what 0 how many hours, 1 who (-3: nobody); -2: not; NONE for others.");
        soonest(x, -2, -2);
        soonest(row("01", ""), 0, 0);
        soonest(row("11", ""), 0, -3);
        for (int what : NO_PAIR) {
            none("soonest(" + what + ")", x.soonest(what));
        }
        sentence.in("Promise 15");
        sentence.of("SPREAD (bits); NONE: no such ones.");
        Checks.due("spread(3, 0)", x.spread(3, 0), 8);
        Checks.due("spread(3, 1)", x.spread(3, 1), 0);
        for (int bed : new int[] {-1, 4, 9, 32, MIN, MAX}) {
            none("spread(" + bed + ", 0)", x.spread(bed, 0));
        }
        for (int n : NO_DAY) {
            none("spread(0, " + n + ")", x.spread(0, n));
        }
        none("spread(0, 0) of nobody", new PartedSide().spread(0, 0));
        sentence.in("Promise 16");
        sentence.of("LEADS: what 0 how many, 1 the least (-2: none); NONE: no such ones.");
        leads(x, 2, 1, 2, 1);
        leads(x, 1, 1, 0, -2);
        leads(new PartedSide(), 0, 24, 1, 0);
        for (int row : new int[] {-1, 16, MIN, MAX}) {
            none("leads(" + row + ", 1, 0)", x.leads(row, 1, 0));
            none("leads(" + row + ", 1, 1)", x.leads(row, 1, 1));
        }
        for (int n : NO_DAY) {
            none("leads(0, " + n + ", 0)", x.leads(0, n, 0));
            none("leads(1, " + n + ", 1)", x.leads(1, n, 1));
        }
        for (int what : NO_PAIR) {
            none("leads(1, 1, " + what + ")", x.leads(1, 1, what));
        }
        promises17To19(x);
    }

    private void promises17To19(PartedSide x) {
        sentence.in("Promise 17");
        sentence.of("TO; -2: not by all; NONE: no such ones.");
        Checks.due("turnTo(15, 0)", x.turnTo(15, 0), 5);
        Checks.due("turnTo(12, 1)", x.turnTo(12, 1), 0);
        Checks.due("turnTo(15, 1)", x.turnTo(15, 1), -2);
        for (int row : new int[] {-1, 16, MIN, MAX}) {
            none("turnTo(" + row + ", 1)", x.turnTo(row, 1));
        }
        for (int n : NO_DAY) {
            none("turnTo(0, " + n + ")", x.turnTo(0, n));
            none("turnTo(15, " + n + ")", x.turnTo(15, n));
        }
        Checks.due("turnTo(0, 24) of nobody", new PartedSide().turnTo(0, 24), 0);
        none("turnTo(1, 0) of nobody", new PartedSide().turnTo(1, 0));
        sentence.in("Promise 18");
        sentence.of("ROUND: what 0 how many, 1 COSTS; NONE: no such ones.");
        round(x, 1, 2, 5);
        round(x, 48, 49, 52);
        for (int n : new int[] {-1, 0, 49, 50, MIN, MAX}) {
            none("round(" + n + ", 0)", x.round(n, 0));
            none("round(" + n + ", 1)", x.round(n, 1));
        }
        for (int what : NO_PAIR) {
            none("round(1, " + what + ")", x.round(1, what));
        }
        sentence.in("Promise 19");
        sentence.of("RULE (bits); NONE: no such BED.");
        Checks.due("rule(0)", x.rule(0), 204);
        Checks.due("rule(3)", x.rule(3), 204);
        for (int bed : new int[] {-1, 4, 9, 32, MIN, MAX}) {
            none("rule(" + bed + ")", x.rule(bed));
        }
        none("rule(0) of nobody", new PartedSide().rule(0));
    }

    private void promises20To25() {
        PartedSide x = row("0110", "chills = 10 * hour; begins 20;");
        sentence.in("Promise 20");
        sentence.of("COLDEST: what 0 the hour, 1 how much. NONE for others.");
        coldest(x, 0, 400);
        for (int what : NO_PAIR) {
            none("coldest(" + what + ")", x.coldest(what));
        }
        sentence.in("Promise 21");
        sentence.of("RUN: what 0 how many, 1 the first BED (-2: nobody is there). NONE for others.");
        Checks.due("run(0)", x.run(0), 2);
        Checks.due("run(1)", x.run(1), 1);
        for (int what : NO_PAIR) {
            none("run(" + what + ")", x.run(what));
            none("run(" + what + ") of nobody", new PartedSide().run(what));
        }
        for (String ring : new String[] {"", "ring 1;"}) {
            Checks.due("run(0) of nobody", row("", ring).run(0), 0);
            Checks.due("run(1) of nobody", row("", ring).run(1), -2);
        }
        sentence.in("Promise 22");
        sentence.of("UNLIKE.");
        Checks.due("unlike()", x.unlike(), 2);
        Checks.due("unlike() of nobody", new PartedSide().unlike(), 0);
        sentence.in("Promise 23");
        sentence.of("EDEN; NONE: no such n.");
        Checks.due("eden(1)", x.eden(1), 0);
        Checks.due("eden(24)", x.eden(24), 0);
        for (int n : new int[] {0, -1, 25, 26, MIN, MAX}) {
            none("eden(" + n + ")", x.eden(n));
        }
        sentence.in("Promise 24");
        sentence.of("DUEL: what 0 how many, 1 who; -2: nobody is there; NONE: no such ones.");
        duel(x, 0, 2, 1);
        duel(x, 24, 2, 1);
        duel(new PartedSide(), 0, -2, -2);
        duel(new PartedSide(), 24, -2, -2);
        for (int n : NO_DAY) {
            none("duel(" + n + ", 0) of nobody", new PartedSide().duel(n, 0));
            none("duel(" + n + ", 0)", x.duel(n, 0));
            none("duel(" + n + ", 1)", x.duel(n, 1));
        }
        for (int what : NO_PAIR) {
            none("duel(0, " + what + ")", x.duel(0, what));
        }
        sentence.in("Promise 25");
        sentence.of("SENTRY: what 0 who, 1 how many (one SLEEPER alone: nobody is WHISTLED); -2: nobody is there; NONE: no such ones.");
        sentry(x, 0, 0, 1);
        sentry(x, 24, 0, 1);
        sentry(row("1", ""), 0, 0, 1);
        sentry(row("0", ""), 24, 0, 0);
        sentry(row("1", UNTIL_23), 23, 0, 1);
        sentry(row("1", UNTIL_23), 24, 0, 0);
        sentry(new PartedSide(), 0, -2, -2);
        for (int n : NO_DAY) {
            none("sentry(" + n + ", 0) of nobody", new PartedSide().sentry(n, 0));
            none("sentry(" + n + ", 0)", x.sentry(n, 0));
            none("sentry(" + n + ", 1)", x.sentry(n, 1));
        }
        for (int what : NO_PAIR) {
            none("sentry(0, " + what + ")", x.sentry(0, what));
        }
    }

    private void promises26To30() {
        sentence.in("Promise 26");
        sentence.of("Whose PARTING is greatest now, of alike ones the first: what 0 the BED, 1 it;");
        PartedSide x = Checks.told("sleeper a 0 9; sleeper b 0 2; sleeper c 0 2; parts = habit;");
        greatest(x, 0, 0);
        x.hours(1);
        greatest(x, 1, -2);
        x.turn(2);
        x.hours(1);
        greatest(x, 2, 0);
        x.change(0, 2);
        greatest(x, 0, 0);
        x = Checks.told(NINE);
        x.turn(8);
        x.hours(3);
        greatest(x, 8, 3);
        sentence.of("-100000: nobody is there, no such ones.");
        for (int what : NO_PAIR) {
            Checks.due("parting(" + what + ")", x.parting(what), -100000);
            Checks.due("parting(" + what + ") of nobody", new PartedSide().parting(what), -100000);
        }
        greatest(new PartedSide(), -100000, -100000);
        sentence.in("Promise 27");
        sentence.of("SHOW; NONE: no such n.");
        Checks.due("shows(0)", x.shows(0), 1);
        Checks.due("shows(48)", x.shows(48), 1);
        Checks.due("shows(48) of nobody", new PartedSide().shows(48), 0);
        for (int n : NO_TWO_DAYS) {
            none("shows(" + n + ")", x.shows(n));
        }
        sentence.in("Promise 28");
        sentence.of("STILL: what 0 how many, 1 the nearest (-2: none). NONE for others.");
        still(x, 512, 256);
        still(row("0", "lies = 1 - own;"), 0, -2);
        for (int what : NO_PAIR) {
            none("still(" + what + ")", x.still(what));
        }
        sentence.in("Promise 29");
        sentence.of("AGAIN; -2: not.");
        Checks.due("again()", x.again(), 1);
        Checks.due("again()", row("1", "lies = 0;").again(), -2);
        sentence.in("Promise 30");
        sentence.of("WHISTLE: what 0 who, 1 how many LEFT; -2: nobody is there; NONE: no such ones.");
        worst(x, 0, 8, 0);
        worst(x, 24, 8, 0);
        worst(new PartedSide(), 0, -2, -2);
        worst(new PartedSide(), 24, -2, -2);
        for (int n : NO_DAY) {
            none("worst(" + n + ", 0) of nobody", new PartedSide().worst(n, 0));
            none("worst(" + n + ", 0)", x.worst(n, 0));
            none("worst(" + n + ", 1)", x.worst(n, 1));
        }
        for (int what : NO_PAIR) {
            none("worst(0, " + what + ")", x.worst(0, what));
        }
    }

    private static void greatest(PartedSide x, int bed, int parting) {
        Checks.due("parting(0)", x.parting(0), bed);
        Checks.due("parting(1)", x.parting(1), parting);
    }

    private void promises31To34() {
        PartedSide x = row("0011", "lies = before;");
        sentence.in("Promise 31");
        sentence.of("CHANGE: what 0 the two (10 * the lesser + the other), 1 how much LEFT; -2: none; NONE: no such ones.");
        changed(x, 1, 3, 2);
        changed(row("1", ""), 1, -2, -2);
        changed(row("0", ""), 24, -2, -2);
        changed(new PartedSide(), 1, -2, -2);
        changed(row("10", ""), 24, -2, -2);
        for (int n : new int[] {0, -1, 25, 26, MIN, MAX}) {
            none("changeBest(" + n + ", 0)", x.changeBest(n, 0));
            none("changeBest(" + n + ", 1)", x.changeBest(n, 1));
        }
        for (int what : NO_PAIR) {
            none("changeBest(1, " + what + ")", x.changeBest(1, what));
        }
        sentence.in("Promise 32");
        sentence.of("LEAVE; -2: not; NONE: no such BED.");
        Checks.due("leave(2)", x.leave(2), 1);
        Checks.due("leave(0)", x.leave(0), -2);
        for (int bed : new int[] {-1, 4, 9, 32, MIN, MAX}) {
            none("leave(" + bed + ")", x.leave(bed));
        }
        none("leave(0) of nobody", new PartedSide().leave(0));
        sentence.in("Promise 33");
        sentence.of("IN n HOURS of who lies in a BED: what 0: 1 LEFT, 0 RIGHT, 1 PARTING, 2 how many of all lie LEFT (BED not looked at);");
        Checks.due("then(3, 1, 0)", x.then(3, 1, 0), 1);
        Checks.due("then(2, 1, 0)", x.then(2, 1, 0), 0);
        Checks.due("then(3, 48, 1)", x.then(3, 48, 1), 2 - 46);
        for (int bed : new int[] {0, 3, -1, 4, 9, MIN, MAX}) {
            Checks.due("then(" + bed + ", 0, 2)", x.then(bed, 0, 2), 2);
            Checks.due("then(" + bed + ", 1, 2)", x.then(bed, 1, 2), 1);
        }
        Checks.due("then(0, 48, 2) of nobody", new PartedSide().then(0, 48, 2), 0);
        sentence.of("-100000: no such ones.");
        for (int what = 0; what <= 1; what++) {
            for (int bed : new int[] {-1, 4, 9, 32, MIN, MAX}) {
                Checks.due("then(" + bed + ", 1, " + what + ")", x.then(bed, 1, what), -100000);
            }
            Checks.due("then(0, 1, " + what + ") of nobody", new PartedSide().then(0, 1, what), -100000);
        }
        for (int n : NO_TWO_DAYS) {
            for (int what = 0; what <= 2; what++) {
                Checks.due("then(0, " + n + ", " + what + ")", x.then(0, n, what), -100000);
            }
        }
        for (int what : new int[] {-1, 3, MIN, MAX}) {
            Checks.due("then(0, 1, " + what + ")", x.then(0, 1, what), -100000);
        }
        sentence.in("Promise 34");
        sentence.of("YEAR; NONE: no such ones.");
        x = row("11", "");
        Checks.due("year(0, 1)", x.year(0, 1), 1);
        Checks.due("year(48, 20)", x.year(48, 20), 20);
        for (int n : NO_TWO_DAYS) {
            none("year(" + n + ", 1)", x.year(n, 1));
        }
        for (int s : new int[] {0, -1, 21, 22, MIN, MAX}) {
            none("year(0, " + s + ")", x.year(0, s));
        }
    }
}
