import java.math.BigInteger;

/** Hours, laws, lots and what is done by hand, and promises 6 to 11: each sentence at its edges. */
final class HourSentences {
    private static final int MIN = Integer.MIN_VALUE;
    private static final int MAX = Integer.MAX_VALUE;
    private static final String LOWEST = "2048*1024*1024";
    private static final String NINE = Checks.beds("000000000");
    private final Sentence sentence;

    HourSentences(Sentence sentence) {
        this.sentence = sentence;
    }

    void check() {
        sentence.in("Terms");
        countedOn();
        laws();
        vars();
        held();
        lots();
        anHour();
        byHand();
        sleeper();
        turn();
        whistle();
        change();
        hours();
        undo();
    }

    private void countedOn() {
        sentence.of("HOURS are counted on from BEGINS on; the hour of the day: its rest by 24.");
        for (int begins : new int[] {0, 1, 22, 23}) {
            PartedSide x = Checks.row("1", "costs = hour; begins " + begins + ";");
            int hour = begins;
            for (int n : new int[] {0, 1, 22, 1, 1, 23, 24, 25, 47, 48}) {
                hour += n;
                Checks.due("hours(" + n + ")", x.hours(n), hour);
                Checks.due("count(1)", x.count(1), hour);
                Checks.due("count(2)", x.count(2), hour % 24);
                Checks.due("hour, asked by a law", x.sleeper(0, 8), hour % 24);
            }
        }
    }

    /** What COSTS tells of one who lies left, of habit 7, in a cold of 42, at 5. */
    private static void cost(String law, int due) {
        PartedSide x = Checks.told("sleeper a 1 7; cold 0 42; begins 5; costs = " + law + ";");
        Checks.due("costs = " + law, x.sleeper(0, 8), due);
    }

    private void laws() {
        sentence.of("LAWS: the E of the first if that holds (one less than the other), else the last one;");
        cost("if 1 < 2 then 3 else 4", 3);
        cost("if 2 < 2 then 3 else 4", 4);
        cost("if 3 < 2 then 3 else 4", 4);
        cost("if 0 - 1 < 0 then 3 else 4", 3);
        cost("if 0 < 0 - 1 then 3 else 4", 4);
        cost("if 0 - 2 < 0 - 1 then 3 else 4", 3);
        cost("if " + LOWEST + " < 1 then 3 else 4", 3);
        cost("if 0 - 2 < " + LOWEST + " - 1 then 3 else 4", 3);
        cost("if " + LOWEST + " - 1 < 0 - 2 then 3 else 4", 4);
        for (int first = 0; first <= 4; first++) {
            StringBuilder law = new StringBuilder();
            for (int i = 0; i < 4; i++) {
                law.append("if ").append(i < first ? "1" : "0").append(" < 1 then 1").append(i).append(" else ");
            }
            cost(law + "19", first == 4 ? 19 : 10 + first);
        }
        sentence.of("ints of 32 bits that wrap, / rounded towards 0;");
        cost("4096*4096*256 + 7", 7);
        cost(LOWEST + " + " + LOWEST + " + 8", 8);
        cost("if " + LOWEST + " - 1 < 0 then 3 else 4", 4);
        cost("if " + LOWEST + " - 1 + 1 < 0 then 3 else 4", 3);
        cost("if 9999*9999*22 < 0 then 3 else 4", 3);
        cost(LOWEST + " - (" + LOWEST + " - 1) + 4", 5);
        cost(LOWEST + "/(0-1) - " + LOWEST + " + 6", 6);
        cost("10 + 7/2", 13);
        cost("10 + (0-7)/2", 7);
        cost("10 + 7/(0-2)", 7);
        cost("10 + (0-7)/(0-2)", 13);
        cost("10 + (0-1)/2", 10);
        cost("10 + (0-2)/2", 9);
        cost("7/9", 0);
        cost("9/9", 1);
        sentence.of("a LAW in which something that is looked at is divided by 0 is 0.");
        cost("50 + 1/0", 0);
        cost("50 + 0/0", 0);
        cost("50 + 0*(1/0)", 0);
        cost("50 + 1/(own-1)", 0);
        cost("50 + 1/(" + LOWEST + "+" + LOWEST + ")", 0);
        cost("50 - 1/0*0", 0);
        cost("if 1/0 < 1 then 3 else 4", 0);
        cost("if 1 < 1/0 then 3 else 4", 0);
        cost("if 1 < 2 then 3/0 else 4", 0);
        cost("if 2 < 1 then 3 else 4/0", 0);
        cost("if 2 < 1 then 3 else if 1/0 < 1 then 5 else 4", 0);
        cost("if 1 < 2 then 3 else 4/0", 3);
        cost("if 2 < 1 then 3/0 else 4", 4);
        cost("if 1 < 2 then 3 else if 1/0 < 1/0 then 5 else 4", 3);
        cost("if 2 < 1 then 1/0 else if 1 < 2 then 6 else 1/0", 6);
        PartedSide x = Checks.row("1", "lies = 1 + 1/bed; parts = 1 + 1/bed; chills = 100 + 1/bed;");
        Checks.due("LIES", x.sleeper(0, 5), 0);
        Checks.due("PARTS", x.sleeper(0, 6), 0);
        Checks.due("CHILLS", x.sleeper(0, 7), 0);
        x.hours(1);
        Checks.due("lies right", x.count(3), 0);
        Checks.due("no parting", x.sleeper(0, 2), 0);
        Checks.due("nobody chilled", x.count(11), 0);
        x = Checks.row("111", "lies = 1/(bed - 1) + 2;");
        Checks.due("divided by 0 for one of three", x.count(6), 5);
    }

    private void vars() {
        sentence.of("Of a SLEEPER: own: 1 LEFT, 0 RIGHT;");
        PartedSide x = Checks.row("10", "costs = 40 + own;");
        Checks.due("left", x.sleeper(0, 8), 41);
        Checks.due("right", x.sleeper(1, 8), 40);
        x.turn(0);
        Checks.due("turned", x.sleeper(0, 8), 40);
        sentence.of("before, behind: how who lies in the BED one less, one more, does, likewise (there is none: 0);");
        for (int row = 0; row < 512; row += 37) {
            String digits = "";
            for (int bed = 0; bed < 9; bed++) {
                digits += row >> bed & 1;
            }
            x = Checks.row(digits, "costs = 10 * before + behind;");
            for (int bed = 0; bed < 9; bed++) {
                int before = bed == 0 ? 0 : row >> bed - 1 & 1;
                int behind = bed == 8 ? 0 : row >> bed + 1 & 1;
                Checks.due("bed " + bed + " of " + digits, x.sleeper(bed, 8), 10 * before + behind);
            }
        }
        x = Checks.row("111", "costs = 10 * before + behind;");
        Checks.due("none before the first", x.sleeper(0, 8), 1);
        Checks.due("none behind the last", x.sleeper(2, 8), 10);
        sentence.of("habit; draft: how cold their BED is; hour: of the day; bed: its number; many: how many SLEEPERS there are; "
            + "parted: their PARTING.");
        x = Checks.told("sleeper a 1 3; sleeper b 0 9; sleeper c 1 0; cold 1 50; begins 23; parts = 8 + bed; costs = habit;");
        int[] habits = {3, 9, 0};
        for (int bed = 0; bed < 3; bed++) {
            Checks.due("habit", x.sleeper(bed, 8), habits[bed]);
        }
        ask(x, "draft", 0, 50, 0);
        ask(x, "hour", 23, 23, 23);
        ask(x, "bed", 0, 1, 2);
        ask(x, "many", 3, 3, 3);
        ask(x, "parted + 20", 20, 20, 20);
        ask(x, "hour", 0, 0, 0, 1);
        ask(x, "parted + 20", 28, 11, 30, 1);
        ask(x, "parted + 40", 56, 22, 60, 2);
        Checks.due("many of one", Checks.row("1", "costs = many;").sleeper(0, 8), 1);
        Checks.due("many of nine", Checks.told(NINE + "costs = many;").sleeper(8, 8), 9);
    }

    /** What COSTS so told answers of three, at first or behind some hours. */
    private static void ask(PartedSide x, String law, int a, int b, int c) {
        ask(x, law, a, b, c, 0);
    }

    private static void ask(PartedSide x, String law, int a, int b, int c, int n) {
        Checks.feed(x, "sleeper a 1 3; sleeper b 0 9; sleeper c 1 0; cold 1 50; begins 23; parts = 8 + bed; costs = " + law + ";");
        x.read();
        x.hours(n);
        Checks.due(law + " of a", x.sleeper(0, 8), a);
        Checks.due(law + " of b", x.sleeper(1, 8), b);
        Checks.due(law + " of c", x.sleeper(2, 8), c);
    }

    private static void told(String law, int what, String value, int due) {
        PartedSide x = Checks.row("1", law + " = " + value + ";");
        Checks.due(law + " = " + value, x.sleeper(0, what), due);
    }

    private void held() {
        sentence.of("LIES: in the next hour they lie LEFT if that tells more than 0, else RIGHT;");
        String[] values = {"1", "2", "9999", LOWEST + " - 1", "0", "0 - 1", LOWEST};
        for (int i = 0; i < values.length; i++) {
            told("lies", 5, values[i], i < 4 ? 1 : 0);
            PartedSide x = Checks.row("10", "lies = " + values[i] + ";");
            Checks.due("count(6)", x.count(6), i < 4 ? 3 : 0);
            x.hours(1);
            Checks.due("count(3)", x.count(3), i < 4 ? 3 : 0);
        }
        sentence.of("PARTS, held to 0 .. 99;");
        String[] edges = {"0", "1", "98", "99", "100", "9999", LOWEST + " - 1", "0 - 1", LOWEST};
        int[] parts = {0, 1, 98, 99, 99, 99, 99, 0, 0};
        for (int i = 0; i < edges.length; i++) {
            told("parts", 6, edges[i], parts[i]);
            PartedSide x = Checks.row("10", "parts = " + edges[i] + ";");
            x.hours(1);
            Checks.due("a's parting by " + edges[i], x.sleeper(0, 2), parts[i]);
            Checks.due("b's parting by " + edges[i], x.sleeper(1, 2), -parts[i]);
        }
        sentence.of("CHILLS, held to 0 .. 100;");
        int[] chills = {0, 1, 98, 99, 100, 100, 100, 0, 0};
        for (int i = 0; i < edges.length; i++) {
            told("chills", 7, edges[i], chills[i]);
            Checks.due("coldest(1)", Checks.row("111", "chills = " + edges[i] + ";").coldest(1), 3 * chills[i]);
        }
        told("chills", 7, "101", 100);
        sentence.of("COSTS of turning one, held to 0 .. 99.");
        for (int i = 0; i < edges.length; i++) {
            told("costs", 8, edges[i], parts[i]);
            PartedSide x = Checks.row("1000", "costs = " + edges[i] + ";");
            Checks.due("count(12) by " + edges[i], x.count(12), 3 * parts[i]);
            Checks.due("turned(0, 0) by " + edges[i], x.turned(0, 0), 3 * parts[i]);
            Checks.due("turnTo(15, 0) by " + edges[i], x.turnTo(15, 0), 3 * parts[i]);
            Checks.due("round(1, 1) by " + edges[i], x.round(1, 1), 3 * parts[i]);
        }
    }

    /** LOT as the document tells it, in numbers that do not wrap by themselves. */
    static int lot(int n, int seed, int which) {
        BigInteger all = BigInteger.TWO.pow(32);
        BigInteger h = BigInteger.valueOf(seed).mod(all);
        for (int it : new int[] {139, which}) {
            h = h.xor(BigInteger.valueOf(it).mod(all)).multiply(BigInteger.valueOf(1103515245)).add(BigInteger.valueOf(12345)).mod(all);
            h = h.xor(h.shiftRight(15));
        }
        return h.shiftRight(1).mod(BigInteger.valueOf(n)).intValue();
    }

    /** In each of nine beds it is as cold as the lot of who lies there tells. */
    private static String coldsByLots(int seed, int hour) {
        StringBuilder text = new StringBuilder();
        for (int bed = 0; bed < 9; bed++) {
            text.append("cold ").append(bed).append(' ').append(lot(100, seed, 16 * hour + bed)).append(';');
        }
        return text.toString();
    }

    private void lots() {
        sentence.of("LOT n of a SEED and a which: h is the SEED; for each of 139, which: h becomes (h and it, each bit of which is in "
            + "just one) times 1103515245 and 12345 more, then h and h moved 15 bits down (zeros come in), likewise; the rest of h, "
            + "moved 1 bit down likewise, by n (32 bits that wrap).");
        Checks.due("LOT 100 of 7 and 0, by hand", lot(100, 7, 0), 94);
        for (int seed : new int[] {0, 1, 7, 139, 4999, 9998, 9999}) {
            for (int begins : new int[] {0, 1, 11, 23}) {
                String text = NINE + "seed " + seed + "; begins " + begins + "; lies = 0; chills = draft;";
                PartedSide x = Checks.told(text + coldsByLots(seed, begins));
                x.hours(1);
                Checks.due("nobody by cold that is the lot, seed " + seed + " at " + begins, x.count(3), 0);
                Checks.due("count(11)", x.count(11), 0);
                x = Checks.told(text.replace("draft", "1 + draft") + coldsByLots(seed, begins));
                x.hours(1);
                Checks.due("all by one more", x.count(3), 511);
                Checks.due("count(11)", x.count(11), 9);
            }
        }
    }

    private void anHour() {
        sentence.of("AN HOUR, all by how it was as it began:");
        PartedSide x = Checks.row("10000", "ring 1; lies = before; parts = 1 + 2 * before + 4 * behind; chills = 100 * behind;");
        x.hours(1);
        // b lies left next as a does now, e is chilled as a lies behind them; b grows by 1 + 2, e by 1 + 4
        Checks.due("count(3)", x.count(3), 2 + 16);
        int[] partings = {1, -3, -1, -1, -5};
        for (int bed = 0; bed < 5; bed++) {
            Checks.due("parting of " + bed, x.sleeper(bed, 2), partings[bed]);
        }
        Checks.due("count(11)", x.count(11), 1);
        x = Checks.row("11", "lies = if parted < 1 then 1 else 0; parts = 3 + 2 * own; begins 23; chills = 100 * (hour / 23) * parted;");
        x.hours(1);
        Checks.due("by partings of before", x.count(3), 3);
        Checks.due("nobody chilled by partings of before", x.count(11), 0);
        Checks.due("grown by 5", x.sleeper(0, 2), 5);
        x.hours(1);
        Checks.due("by partings of the hour before", x.count(3), 0);
        Checks.due("grown by 5 more, as they lay left still", x.sleeper(0, 2), 10);
        sentence.of("the PARTING of who lies LEFT is more by PARTS, of who lies RIGHT less by it (-9,999 .. 9,999);");
        x = Checks.row("10", "parts = 99;");
        x.hours(48);
        x.hours(48);
        x.hours(4);
        Checks.due("a behind 100 hours", x.sleeper(0, 2), 9900);
        Checks.due("b behind 100 hours", x.sleeper(1, 2), -9900);
        x.hours(1);
        Checks.due("a at the most", x.sleeper(0, 2), 9999);
        Checks.due("b at the least", x.sleeper(1, 2), -9999);
        x.hours(1);
        Checks.due("a not beyond", x.sleeper(0, 2), 9999);
        Checks.due("b not beyond", x.sleeper(1, 2), -9999);
        x.whistle();
        x.hours(1);
        Checks.due("a less again", x.sleeper(0, 2), 9900);
        Checks.due("b more again", x.sleeper(1, 2), -9900);
        x = Checks.row("10", "parts = 98;");
        x.hours(48);
        x.hours(48);
        x.hours(6);
        Checks.due("a behind 102 hours", x.sleeper(0, 2), 9996);
        Checks.due("b behind 102 hours", x.sleeper(1, 2), -9996);
        x.hours(1);
        Checks.due("a not by all of 98", x.sleeper(0, 2), 9999);
        Checks.due("b not by all of 98", x.sleeper(1, 2), -9999);
        chilled();
        sentence.of("It is the next hour.");
        x = Checks.told("begins 23;");
        Checks.due("hours(1)", x.hours(1), 24);
        Checks.due("count(15)", x.count(15), 1);
    }

    private void chilled() {
        sentence.of("each lies as LIES tells; who is CHILLED (LOT 100 of the SEED and 16 * the hour, counted on, and the BED is less "
            + "than CHILLS), the other way than that.");
        PartedSide x = Checks.row("0101", "lies = 1 - bed / 2;");
        x.hours(1);
        Checks.due("nobody chilled by 0", x.count(3), 3);
        x = Checks.row("0101", "lies = 1 - bed / 2; chills = 100;");
        x.hours(1);
        Checks.due("all chilled by 100", x.count(3), 12);
        Checks.due("count(11)", x.count(11), 4);
        // The hour of the lot is counted on: two days, hour by hour, and nine beds each.
        x = Checks.told(NINE + "seed 321; begins 20; chills = 50; lies = 0;");
        x.change(0, 8);
        int all = 0;
        for (int hour = 20; hour < 70; hour++) {
            x.hours(1);
            int row = 0;
            for (int bed = 0; bed < 9; bed++) {
                row |= lot(100, 321, 16 * hour + bed) < 50 ? 1 << bed : 0;
            }
            all += Integer.bitCount(row);
            Checks.due("the row behind hour " + hour, x.count(3), row);
        }
        Checks.due("count(11)", x.count(11), all);
    }

    private void byHand() {
        sentence.of("By hand: a SLEEPER is TURNED over; all are WHISTLED over;");
        PartedSide x = Checks.row("0110", "");
        x.turn(0);
        Checks.due("one turned", x.count(3), 7);
        x.turn(0);
        Checks.due("and turned back", x.count(3), 6);
        x.whistle();
        Checks.due("all whistled over", x.count(3), 9);
        x.whistle();
        Checks.due("and over again", x.count(3), 6);
        sentence.of("two change BEDS (NAME, HABIT, how they lie, PARTING, how often TURNED go with them);");
        x = Checks.told("sleeper a 1 4; sleeper b 0 6; sleeper c 0 2; cold 0 3; cold 2 9; parts = 1 + bed;");
        x.hours(2);
        x.turn(2);
        x.turn(0);
        x.turn(2);
        x.turn(0);
        x.turn(2);
        x.change(0, 2);
        int[] whats = {0, 1, 2, 3, 4, 9};
        int[] first = {1, 2, -6, 3, 2, 3};
        int[] last = {1, 4, 2, 9, 0, 2};
        for (int i = 0; i < whats.length; i++) {
            Checks.due("sleeper(0, " + whats[i] + ")", x.sleeper(0, whats[i]), first[i]);
            Checks.due("sleeper(2, " + whats[i] + ")", x.sleeper(2, whats[i]), last[i]);
        }
        x = Checks.row("100", "");
        x.change(0, 2);
        Checks.due("how they lie goes with them", x.count(3), 4);
        x.change(1, 0);
        Checks.due("both right", x.count(3), 4);
        Checks.due("sleeper(0, 4)", x.sleeper(0, 4), 1);
        for (int bed = 0; bed < 9; bed++) {
            for (int other = 0; other < 9; other += bed == other + 1 ? 2 : 1) {
                x = Checks.told(NINE);
                x.turn(bed);
                x.change(bed, other);
                Checks.due("who lies left goes from " + bed + " to " + other, x.count(3), 1 << other);
                x.change(bed, other);
                Checks.due("and back", x.count(3), 1 << bed);
            }
        }
        sentence.of("HOURS go by.");
        x = Checks.row("1", "lies = 1 - own;");
        Checks.due("hours(3)", x.hours(3), 3);
        Checks.due("count(3)", x.count(3), 0);
        Checks.due("count(15)", x.count(15), 3);
    }

    private void sleeper() {
        sentence.in("Promise 6");
        sentence.of("Of who lies in a BED: what 0: 1 LEFT, 0 RIGHT, 1 HABIT, 2 PARTING, 3 COLD of the BED, 4 whose NAME (the number with "
            + "which it was told), 5: 1 they lie LEFT in the next hour, by LIES, else 0, 6 PARTS, 7 CHILLS, 8 COSTS now, 9 how often "
            + "TURNED by hand so far, one by one;");
        PartedSide x = Checks.told("sleeper a 1 4; sleeper b 0 6; cold 0 3; cold 1 5; begins 22; lies = 1 - own; parts = 2 * habit;"
            + "chills = 100 * (hour / 23); costs = hour + parted;");
        int[] a = {1, 4, 0, 3, 0, 0, 8, 0, 22, 0};
        int[] b = {0, 6, 0, 5, 1, 1, 12, 0, 22, 0};
        whole(x, a, b);
        x.hours(1);
        whole(x, new int[] {0, 4, 8, 3, 0, 1, 8, 100, 31, 0}, new int[] {1, 6, -12, 5, 1, 0, 12, 100, 11, 0});
        x.change(0, 1);
        x.turn(0);
        x.turn(0);
        x.turn(0);
        x.whistle();
        whole(x, new int[] {1, 6, -12, 3, 1, 0, 12, 100, 11, 3}, new int[] {1, 4, 8, 5, 0, 0, 8, 100, 31, 0});
        sentence.of("-100000: no such ones.");
        for (int bed : new int[] {-1, 2, 8, 9, 31, 32, MIN, MAX}) {
            for (int what = 0; what <= 9; what++) {
                Checks.due("sleeper(" + bed + ", " + what + ")", x.sleeper(bed, what), -100000);
            }
        }
        for (int what : new int[] {-1, 10, MIN, MAX}) {
            Checks.due("sleeper(0, " + what + ")", x.sleeper(0, what), -100000);
            Checks.due("sleeper(2, " + what + ")", x.sleeper(2, what), -100000);
        }
        Checks.due("sleeper(0, 0) of nobody", new PartedSide().sleeper(0, 0), -100000);
        Checks.due("sleeper(8, 0) of nine", Checks.told(NINE).sleeper(8, 0), 0);
        Checks.due("sleeper(9, 0) of nine", Checks.told(NINE).sleeper(9, 0), -100000);
    }

    private static void whole(PartedSide x, int[] first, int[] second) {
        for (int what = 0; what <= 9; what++) {
            Checks.due("sleeper(0, " + what + ")", x.sleeper(0, what), first[what]);
            Checks.due("sleeper(1, " + what + ")", x.sleeper(1, what), second[what]);
        }
    }

    private void turn() {
        sentence.in("Promise 7");
        sentence.of("TURNED over: true; false: no such BED.");
        PartedSide x = Checks.told(NINE);
        Checks.due("turn(0)", x.turn(0), true);
        Checks.due("turn(8)", x.turn(8), true);
        Checks.due("count(3)", x.count(3), 257);
        x = Checks.row("10", "");
        Checks.due("turn(1)", x.turn(1), true);
        Checks.due("turn(0)", x.turn(0), true);
        Checks.due("count(14)", x.count(14), 2);
        String before = Checks.seen(x);
        for (int bed : new int[] {-1, 2, 9, 32, 33, MIN, MAX}) {
            Checks.due("turn(" + bed + ")", x.turn(bed), false);
        }
        Checks.same("nothing happened", Checks.seen(x), before);
        Checks.due("turn(0) of nobody", new PartedSide().turn(0), false);
    }

    private void whistle() {
        sentence.in("Promise 8");
        sentence.of("All are WHISTLED over: true; false: nobody is there.");
        PartedSide x = Checks.row("1", "");
        Checks.due("whistle() over one", x.whistle(), true);
        Checks.due("count(3)", x.count(3), 0);
        x = Checks.told(NINE);
        Checks.due("whistle() over nine", x.whistle(), true);
        Checks.due("count(3)", x.count(3), 511);
        Checks.due("count(8)", x.count(8), 1);
        Checks.due("count(14)", x.count(14), 0);
        x = new PartedSide();
        Checks.due("whistle() over nobody", x.whistle(), false);
        Checks.due("count(8)", x.count(8), 0);
    }

    private void change() {
        sentence.in("Promise 9");
        sentence.of("They change BEDS: true; false, and nothing happens: no such ones, one and the same.");
        PartedSide x = Checks.told(NINE);
        Checks.due("change(0, 8)", x.change(0, 8), true);
        Checks.due("sleeper(0, 4)", x.sleeper(0, 4), 8);
        Checks.due("sleeper(8, 4)", x.sleeper(8, 4), 0);
        Checks.due("change(8, 7)", x.change(8, 7), true);
        Checks.due("sleeper(7, 4)", x.sleeper(7, 4), 0);
        x = Checks.row("100", "");
        x.change(0, 1);
        String before = Checks.seen(x);
        int[][] wrong = {{0, 0}, {2, 2}, {3, 3}, {0, 3}, {3, 0}, {-1, 0}, {0, -1}, {-1, -1}, {MAX, 1}, {1, MAX}, {MIN, 1}, {1, MIN}, {0, 32}};
        for (int[] w : wrong) {
            Checks.due("change(" + w[0] + ", " + w[1] + ")", x.change(w[0], w[1]), false);
        }
        Checks.same("nothing happened", Checks.seen(x), before);
        Checks.due("change(0, 1) of nobody", new PartedSide().change(0, 1), false);
        Checks.due("change(0, 0) of one", Checks.row("1", "").change(0, 0), false);
        Checks.due("change(0, 1) of one", Checks.row("1", "").change(0, 1), false);
    }

    private void hours() {
        sentence.in("Promise 10");
        sentence.of("n HOURS (0 .. 48; 0 is no thing done) go by: which it is, counted on;");
        PartedSide x = Checks.row("10", "begins 5; parts = 2;");
        Checks.due("hours(0)", x.hours(0), 5);
        Checks.due("count(8)", x.count(8), 0);
        Checks.due("undo()", x.undo(), false);
        Checks.due("hours(48)", x.hours(48), 53);
        Checks.due("count(8)", x.count(8), 1);
        Checks.due("a's parting", x.sleeper(0, 2), 96);
        Checks.due("hours(0)", x.hours(0), 53);
        Checks.due("count(8)", x.count(8), 1);
        Checks.due("hours(1)", x.hours(1), 54);
        Checks.due("count(8)", x.count(8), 2);
        Checks.due("hours(47)", x.hours(47), 101);
        Checks.due("a's parting", x.sleeper(0, 2), 192);
        Checks.due("hours(7) with nobody there", new PartedSide().hours(7), 7);
        sentence.of("NONE, and nothing happens: no such n.");
        String before = Checks.seen(x);
        for (int n : new int[] {-1, 49, 50, MIN, MAX}) {
            Checks.due("hours(" + n + ")", x.hours(n), -1);
        }
        Checks.same("nothing happened", Checks.seen(x), before);
    }

    private void undo() {
        sentence.in("Promise 11");
        sentence.of("The last thing done (turn, whistle, change, hours) is undone: true;");
        PartedSide x = Checks.told("sleeper a 1 4; sleeper b 0 6; sleeper c 0 2; chills = 60; begins 3; parts = 1 + habit;"
            + "lies = if habit < 5 then before else 1 - own;");
        String[] before = new String[5];
        before[0] = Checks.seen(x);
        x.turn(1);
        before[1] = Checks.seen(x);
        x.whistle();
        before[2] = Checks.seen(x);
        x.change(0, 1);
        before[3] = Checks.seen(x);
        x.hours(30);
        x.hours(0);
        x.turn(3);
        x.change(1, 1);
        x.hours(49);
        for (int i = 3; i >= 0; i--) {
            Checks.due("undo()", x.undo(), true);
            Checks.same("as it was ahead of thing " + i, Checks.seen(x), before[i]);
        }
        ofNine();
        x.tell(0, 0, true);
        x.turn(0);
        x.tell(1, 0, true);
        x.undo();
        Checks.due("to tell is no thing done", x.forget(), 2);
        sentence.of("false: there is none (the last 40 can be).");
        Checks.due("undo()", x.undo(), false);
        Checks.same("nothing happened", Checks.seen(x), before[0]);
        Checks.due("undo() of a new one", new PartedSide().undo(), false);
        x = Checks.row("1", "");
        for (int i = 0; i < 41; i++) {
            x.hours(1);
            Checks.due("count(8)", x.count(8), Math.min(40, i + 1));
        }
        for (int i = 0; i < 40; i++) {
            Checks.due("undo() " + i, x.undo(), true);
            Checks.due("count(1)", x.count(1), 40 - i);
            Checks.due("count(8)", x.count(8), 39 - i);
        }
        Checks.due("undo() of the 41st", x.undo(), false);
        Checks.due("count(1)", x.count(1), 1);
        // Some undone and some done once more, past the fortieth.
        x = Checks.row("1", "");
        doAndUndo(x, 35, 10);
        doAndUndo(x, 30, 20);
        doAndUndo(x, 7, 27);
        Checks.due("undo()", x.undo(), false);
        Checks.due("count(1), all but what went ahead of the last 40", x.count(1), 15);
    }

    private static void ofNine() {
        PartedSide x = Checks.told(NINE.replace("sleeper i 0 0;", "sleeper i 0 7;") + "lies = habit;");
        x.turn(8);
        x.change(7, 8);
        x.turn(7);
        x.hours(1);
        String before = Checks.seen(x);
        x.change(8, 7);
        x.turn(8);
        Checks.due("count(6)", x.count(6), 256);
        x.undo();
        x.undo();
        Checks.same("the ninth, too", Checks.seen(x), before);
        Checks.due("sleeper(7, 9)", x.sleeper(7, 9), 2);
        Checks.due("sleeper(8, 4)", x.sleeper(8, 4), 7);
        x.undo();
        x.undo();
        x.undo();
        Checks.due("sleeper(8, 9)", x.sleeper(8, 9), 1);
        Checks.due("sleeper(8, 4)", x.sleeper(8, 4), 8);
        Checks.due("count(6)", x.count(6), 256);
    }

    private static void doAndUndo(PartedSide x, int done, int undone) {
        int hour = x.count(1);
        for (int i = 0; i < done; i++) {
            x.hours(1);
        }
        for (int i = 0; i < undone; i++) {
            Checks.due("undo()", x.undo(), true);
        }
        Checks.due("count(1)", x.count(1), hour + done - undone);
    }
}
