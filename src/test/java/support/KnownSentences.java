/** What is told and known, held and counted, and promises 35 to 41: each sentence at its edges. */
final class KnownSentences {
    private static final int MIN = Integer.MIN_VALUE;
    private static final int MAX = Integer.MAX_VALUE;
    private static final String SEVEN = Checks.beds("0000000") + "ring 1; lies = before;";
    private static final String NINE = Checks.beds("000000000");
    private final Sentence sentence;

    KnownSentences(Sentence sentence) {
        this.sentence = sentence;
    }

    void check() {
        sentence.in("What it is");
        manyCalls();
        sentence.in("Terms");
        told();
        lay();
        look();
        tell();
        forget();
        promises37And38();
        hold();
        restore();
        count();
    }

    private void manyCalls() {
        sentence.of("An object is used for at most 512 calls after it has been made; what later calls answer is free.");
        PartedSide x = new PartedSide();
        x.feed(0x62656769, 0x6e732035, 0x3b736565, 0x6420373b, 0x20202020);
        Checks.due("read() of begins 5;seed 7;", x.read(), 0);
        for (int i = 0; i < 509; i++) {
            Checks.due("hours(48) " + i, x.hours(48), 5 + 48 * (i + 1));
        }
        Checks.due("the 512th call", x.count(2), (5 + 48 * 509) % 24);
        x = Checks.told("sleeper a 1 0; seed 7; chills = 50;");
        int hour = 0;
        int chilled = 0;
        for (int i = 0; i < 505; i++) {
            x.hours(48);
            for (int n = 0; n < 48; n++) {
                chilled += HourSentences.lot(100, 7, 16 * hour++) < 50 ? 1 : 0;
            }
        }
        Checks.due("chilled so far, late", x.count(11), chilled);
    }

    private void told() {
        sentence.of("TOLD: that one lay LEFT n hours from now (0 .. 24), or RIGHT; 20 at most, numbered from 0 on; KNOWN by k: the first k.");
        PartedSide x = Checks.told(SEVEN);
        for (int i = 0; i < 20; i++) {
            // Behind i hours who lies in bed i, counted round, lies as bed 0 does now.
            Checks.due("tell " + i, x.tell(i % 7, i, i % 2 == 0 == i < 7), i);
        }
        Checks.due("a 21st", x.tell(0, 0, true), -1);
        Checks.due("count(9)", x.count(9), 20);
        // The first tells left of bed 0, the second right.
        Checks.due("by the first 0", x.lay(0, 0), 128);
        Checks.due("by the first 1", x.lay(1, 0), 64);
        Checks.due("by the first 1, left", x.lay(1, 2), 1);
        Checks.due("by the first 2", x.lay(2, 0), 0);
        Checks.due("by the first 20", x.lay(20, 0), 0);
        x = Checks.told(SEVEN);
        x.tell(3, 0, true);
        x.tell(3, 24, false);
        x.tell(3, 23, true);
        Checks.due("left now", x.lay(1, 2), 8);
        Checks.due("right 24 hours from now", x.lay(2, 3), 1);
        Checks.due("left 23 hours from now", x.lay(3, 2), 8 + 2);
        Checks.due("all three", x.lay(3, 0), 16);
    }

    private static void lay(PartedSide x, int k, int howMany, int least, int left, int right) {
        Checks.due("lay(" + k + ", 0)", x.lay(k, 0), howMany);
        Checks.due("lay(" + k + ", 1)", x.lay(k, 1), least);
        Checks.due("lay(" + k + ", 2)", x.lay(k, 2), left);
        Checks.due("lay(" + k + ", 3)", x.lay(k, 3), right);
    }

    private void lay() {
        sentence.of("LAY: ROWS in which all may lie now, so that all that is KNOWN is so: how many; the least; who lies LEFT in all of "
            + "them; RIGHT in all.");
        PartedSide x = Checks.told(NINE);
        lay(x, 0, 512, 0, 0, 0);
        x.tell(8, 24, true);
        lay(x, 1, 256, 256, 256, 0);
        x.tell(0, 3, false);
        lay(x, 2, 128, 256, 256, 1);
        for (int bed = 1; bed < 8; bed++) {
            x.tell(bed, 0, bed % 2 == 0);
        }
        lay(x, 9, 1, 256 + 64 + 16 + 4, 256 + 64 + 16 + 4, 1 + 2 + 8 + 32 + 128);
        x.tell(7, 0, true);
        lay(x, 10, 0, -2, -2, -2);
        lay(x, 9, 1, 256 + 64 + 16 + 4, 256 + 64 + 16 + 4, 1 + 2 + 8 + 32 + 128);
        // How all lie now does not matter, the hour and the partings of now do; nobody is chilled.
        x = Checks.row("10", "begins 22; lies = if hour < 23 then own else 1 - own; chills = 100;");
        x.tell(0, 1, true);
        x.tell(0, 2, true);
        lay(x, 1, 2, 1, 1, 0);
        lay(x, 2, 0, -2, -2, -2);
        x = Checks.row("01", "lies = parted;");
        x.hours(1);
        x.tell(1, 1, true);
        x.tell(0, 1, true);
        lay(x, 1, 4, 0, 0, 0);
        lay(x, 2, 0, -2, -2, -2);
        lay(new PartedSide(), 0, 1, 0, 0, 0);
    }

    private void look() {
        sentence.of("LOOK n hours from now (0 .. 24): the one of whom, once it is told how they lie then, fewest are left, at worst; of "
            + "alike ones the first.");
        PartedSide x = Checks.told(SEVEN);
        Checks.due("look(0, 0), all alike", x.look(0, 0), 0);
        Checks.due("look(0, 24), all alike", x.look(0, 24), 0);
        x.tell(0, 0, true);
        Checks.due("look(1, 0)", x.look(1, 0), 1);
        Checks.due("look(1, 24), bed 0 then is bed 4 now", x.look(1, 24), 0);
        x.tell(4, 0, true);
        Checks.due("look(2, 24), bed 0 then is known", x.look(2, 24), 1);
        Checks.due("look(2, 23), bed 0 then is bed 5 now", x.look(2, 23), 0);
        Checks.due("look(2, 22), bed 6", x.look(2, 22), 0);
        // Behind an hour a lies left in 7 rows of 8, b in 4 of 8, c in 4 of 8: at worst 7, 4 and 4 are left.
        x = Checks.row("000", "lies = if bed < 1 then own + behind + before else own; ring 1;");
        Checks.due("look(0, 1)", x.look(0, 1), 1);
        Checks.due("look(0, 0)", x.look(0, 0), 0);
        x = Checks.row("00", "lies = if bed < 1 then 0 else own;");
        Checks.due("look(0, 1), all right leaves all", x.look(0, 1), 1);
        x = Checks.row("00", "lies = if bed < 1 then 1 else own;");
        Checks.due("look(0, 1), all left leaves all", x.look(0, 1), 1);
        x = Checks.told(NINE + "lies = if bed < 8 then 0 else own;");
        Checks.due("look(0, 24), the last of nine", x.look(0, 24), 8);
        x.tell(8, 0, true);
        Checks.due("look(1, 24), nothing is gained", x.look(1, 24), 0);
        x = Checks.row("00", "");
        x.tell(0, 0, true);
        x.tell(1, 0, false);
        Checks.due("look(2, 0), one row is left", x.look(2, 0), 0);
        Checks.due("look(2, 24), one row is left", x.look(2, 24), 0);
    }

    private void tell() {
        sentence.in("Promise 35");
        sentence.of("It is TOLD: its number;");
        PartedSide x = Checks.told(NINE);
        Checks.due("tell(0, 0, true)", x.tell(0, 0, true), 0);
        Checks.due("tell(8, 24, false)", x.tell(8, 24, false), 1);
        Checks.due("tell(8, 24, false), as told already", x.tell(8, 24, false), 2);
        Checks.due("tell(8, 24, true), against it", x.tell(8, 24, true), 3);
        Checks.due("count(9)", x.count(9), 4);
        Checks.due("count(8)", x.count(8), 0);
        sentence.of("NONE, and nothing happens: 20 are there, no such ones.");
        int[][] wrong = {{-1, 0}, {9, 0}, {10, 0}, {0, -1}, {0, 25}, {0, 48}, {MIN, 0}, {MAX, 0}, {0, MIN}, {0, MAX}, {9, 25}};
        for (int[] w : wrong) {
            Checks.due("tell(" + w[0] + ", " + w[1] + ", true)", x.tell(w[0], w[1], true), -1);
            Checks.due("count(9)", x.count(9), 4);
        }
        x = Checks.told(NINE);
        for (int i = 0; i < 20; i++) {
            Checks.due("tell " + i, x.tell(i < 19 ? 1 : 8, 0, true), i);
        }
        Checks.due("a 21st", x.tell(2, 0, true), -1);
        Checks.due("count(9)", x.count(9), 20);
        lay(x, 20, 128, 2 + 256, 2 + 256, 0);
        Checks.due("tell(0, 0, true) of nobody", new PartedSide().tell(0, 0, true), -1);
        x.forget();
        Checks.due("tell, after all are forgotten", x.tell(2, 0, true), 0);
    }

    private void forget() {
        sentence.in("Promise 36");
        sentence.of("All that was TOLD is forgotten: how many there were.");
        PartedSide x = Checks.told(NINE);
        Checks.due("forget() of nothing", x.forget(), 0);
        x.tell(0, 0, true);
        Checks.due("forget() of one", x.forget(), 1);
        Checks.due("count(9)", x.count(9), 0);
        Checks.due("lay(1, 0)", x.lay(1, 0), -1);
        for (int i = 0; i < 20; i++) {
            x.tell(0, 0, false);
        }
        Checks.due("forget() of twenty", x.forget(), 20);
        Checks.due("forget() again", x.forget(), 0);
        x.tell(3, 0, true);
        lay(x, 1, 256, 8, 8, 0);
        Checks.due("forget() of nobody", new PartedSide().forget(), 0);
    }

    private void promises37And38() {
        sentence.in("Promise 37");
        sentence.of("LAY, as KNOWN by k: what 0 how many, 1 the least, 2 LEFT in all (bits), 3 RIGHT in all (bits); -2: what 1 .. 3, none "
            + "is left; NONE: no such ones.");
        PartedSide x = Checks.row("000", "lies = 0;");
        lay(x, 0, 8, 0, 0, 0);
        x.tell(1, 0, true);
        x.tell(1, 1, true);
        lay(x, 1, 4, 2, 2, 0);
        lay(x, 2, 0, -2, -2, -2);
        for (int k : new int[] {-1, 3, 4, 20, 21, MIN, MAX}) {
            for (int what = 0; what <= 3; what++) {
                Checks.due("lay(" + k + ", " + what + ")", x.lay(k, what), -1);
            }
        }
        for (int what : new int[] {-1, 4, 5, MIN, MAX}) {
            Checks.due("lay(0, " + what + ")", x.lay(0, what), -1);
            Checks.due("lay(2, " + what + ")", x.lay(2, what), -1);
        }
        Checks.due("lay(1, 0) of nobody", new PartedSide().lay(1, 0), -1);
        sentence.in("Promise 38");
        sentence.of("LOOK, as KNOWN by k; -2: none is left, nobody is there; NONE: no such ones.");
        Checks.due("look(1, 0)", x.look(1, 0), 0);
        Checks.due("look(1, 24)", x.look(1, 24), 0);
        Checks.due("look(2, 0), none is left", x.look(2, 0), -2);
        Checks.due("look(2, 24), none is left", x.look(2, 24), -2);
        Checks.due("look(0, 0) of nobody", new PartedSide().look(0, 0), -2);
        Checks.due("look(0, 24) of nobody", new PartedSide().look(0, 24), -2);
        for (int k : new int[] {-1, 3, 4, 20, 21, MIN, MAX}) {
            Checks.due("look(" + k + ", 0)", x.look(k, 0), -1);
        }
        for (int n : new int[] {-1, 25, 26, 48, MIN, MAX}) {
            Checks.due("look(0, " + n + ") of nobody", new PartedSide().look(0, n), -1);
            Checks.due("look(0, " + n + ")", x.look(0, n), -1);
            Checks.due("look(2, " + n + ")", x.look(2, n), -1);
        }
        Checks.due("look(1, 0) of nobody", new PartedSide().look(1, 0), -1);
    }

    private void hold() {
        sentence.in("Promise 39");
        sentence.of("All that goes on (not what is TOLD, nor the tape) is held in a SLOT (0 .. 2): true; false: no such one.");
        PartedSide x = Checks.told("sleeper a 1 4; sleeper b 0 6; chills = 60; begins 3; lies = if habit < 5 then 1 - own else own;"
            + "parts = habit; seed 5;");
        x.turn(1);
        x.hours(7);
        x.change(0, 1);
        String held = Checks.sleepers(x);
        int[] counts = counts(x);
        for (int slot = 0; slot <= 2; slot++) {
            Checks.due("hold(" + slot + ")", x.hold(slot), true);
            Checks.due("count(10)", x.count(10), slot + 1);
        }
        Checks.due("hold(1) once more", x.hold(1), true);
        Checks.due("count(10)", x.count(10), 3);
        Checks.due("count(8), to hold is no thing done", x.count(8), 3);
        for (int slot : new int[] {-1, 3, 4, MIN, MAX}) {
            Checks.due("hold(" + slot + ")", x.hold(slot), false);
        }
        Checks.due("count(10)", x.count(10), 3);
        x.hours(20);
        x.whistle();
        x.change(0, 1);
        x.turn(0);
        x.tell(0, 0, true);
        Checks.feed(x, "ring");
        Checks.due("restore(0)", x.restore(0), true);
        Checks.same("as it was held", Checks.sleepers(x), held);
        Checks.due("what is told stays", x.count(9), 1);
        Checks.due("the tape stays", x.count(7), 4);
        int[] later = counts(x);
        for (int i = 0; i < counts.length; i++) {
            Checks.due("count(" + GOES_ON[i] + ")", later[i], counts[i]);
        }
        x = Checks.told(NINE.replace("sleeper i 0 0;", "sleeper i 0 7;") + "lies = habit;");
        x.turn(8);
        x.hold(0);
        x.change(7, 8);
        x.turn(7);
        x.after(0, 24);
        x.restore(0);
        Checks.due("the ninth's name, held", x.sleeper(8, 4), 8);
        Checks.due("the ninth's turns, held", x.sleeper(8, 9), 1);
        Checks.due("the ninth's next hour", x.count(6), 256);
        x = new PartedSide();
        Checks.due("hold(2) of nobody", x.hold(2), true);
        Checks.due("restore(2) of nobody", x.restore(2), true);
    }

    private static final int[] GOES_ON = {0, 1, 2, 3, 4, 5, 6, 11, 12, 13, 14, 15, 16};

    private static int[] counts(PartedSide x) {
        int[] all = new int[GOES_ON.length];
        for (int i = 0; i < all.length; i++) {
            all[i] = x.count(GOES_ON[i]);
        }
        return all;
    }

    private void restore() {
        sentence.in("Promise 40");
        sentence.of("It goes on from what a SLOT holds (that stays there; nothing can be undone then): true;");
        PartedSide x = Checks.row("10", "parts = 2; chills = 100;");
        x.hold(0);
        x.hours(1);
        x.hold(1);
        x.hours(1);
        x.hold(2);
        int[] hour = {0, 1, 2};
        for (int slot : new int[] {0, 1, 2, 2, 0, 1}) {
            x.hours(5);
            x.turn(0);
            Checks.due("count(8)", x.count(8) >= 2, true);
            Checks.due("restore(" + slot + ")", x.restore(slot), true);
            Checks.due("count(1)", x.count(1), hour[slot]);
            Checks.due("count(3)", x.count(3), slot == 1 ? 2 : 1);
            Checks.due("count(11)", x.count(11), 2 * slot);
            Checks.due("count(14)", x.count(14), 0);
            Checks.due("count(8)", x.count(8), 0);
            Checks.due("undo()", x.undo(), false);
            Checks.due("count(10)", x.count(10), 3);
        }
        // It goes on: what is done behind it can be undone, up to it.
        x.turn(1);
        x.hours(2);
        Checks.due("undo()", x.undo(), true);
        Checks.due("undo()", x.undo(), true);
        Checks.due("undo()", x.undo(), false);
        Checks.due("count(1)", x.count(1), 1);
        x.turn(1);
        Checks.due("what is held does not go on", x.restore(1), true);
        Checks.due("count(3)", x.count(3), 2);
        x.turn(0);
        x.hold(1);
        x.hours(4);
        Checks.due("what was held last", x.restore(1), true);
        Checks.due("count(3)", x.count(3), 3);
        sentence.of("false, and nothing happens: no such one, nothing is held.");
        x = Checks.row("10", "");
        x.hold(1);
        x.turn(0);
        String before = Checks.seen(x);
        for (int slot : new int[] {0, 2, 3, -1, 4, MIN, MAX}) {
            Checks.due("restore(" + slot + ")", x.restore(slot), false);
        }
        Checks.same("nothing happened", Checks.seen(x), before);
        Checks.due("undo()", x.undo(), true);
        Checks.due("restore(0) of a new one", new PartedSide().restore(0), false);
    }

    private void count() {
        sentence.in("Promise 41");
        sentence.of("0 SLEEPERS, 1 the hour, counted on, 2 the hour of the day, 3 the ROW, 4 how many lie LEFT, 5 whose PARTING SHOWS (by "
            + "BEDS, bits), 6 the ROW in the next hour, 7 bytes on the tape, 8 things that can be undone, 9 TOLD ones, 10 SLOTS that "
            + "hold something, 11 how many were CHILLED so far, 12 COSTS of TURNING all who lie RIGHT now, together, 13: 1 a RING, else "
            + "0, 14 how often any was TURNED so far, one by one, 15 hours that went by, 16 HABIT of all, together.");
        PartedSide x = Checks.told("sleeper a 1 4; sleeper b 0 6; sleeper c 1 1; sleeper d 0 0; begins 22; ring 1;"
            + "lies = before; costs = habit + 1; chills = if hour < 22 then 0 else 100 * (bed / 3);");
        counted(x, 4, 22, 22, 5, 2, 0, 10, 0, 0, 0, 0, 0, 8, 1, 0, 0, 11);
        // d is chilled at 22 and 23: rows 5, 2, 12, 9; partings -1, -1, 1, -1
        x.hours(3);
        counted(x, 4, 25, 1, 9, 2, 4, 3, 0, 1, 0, 0, 2, 9, 1, 0, 3, 11);
        x.turn(1);
        x.turn(1);
        x.turn(3);
        x.whistle();
        x.hold(0);
        x.hold(2);
        x.tell(0, 0, true);
        Checks.feed(x, "ring 0;");
        counted(x, 4, 25, 1, 14, 3, 4, 13, 7, 5, 1, 2, 2, 5, 1, 3, 3, 11);
        x = Checks.told("sleeper a 1 4; sleeper b 0 6; sleeper c 1 0; parts = habit;");
        x.hours(1);
        counted(x, 3, 1, 1, 5, 2, 1, 5, 0, 1, 0, 0, 0, 1, 0, 0, 1, 10);
        x.change(0, 2);
        Checks.due("count(5), by beds", x.count(5), 4);
        x = Checks.told("sleeper x 1 9;" + Checks.beds("11111111").replace(" 0;", " 9;") + "costs = 99; ring 1;");
        x.whistle();
        x.hours(48);
        counted(x, 9, 48, 0, 0, 0, 0, 0, 0, 2, 0, 0, 0, 891, 1, 0, 48, 81);
        x.whistle();
        x.hours(48);
        x.hours(1);
        counted(x, 9, 97, 1, 511, 9, 511, 511, 0, 5, 0, 0, 0, 0, 1, 0, 97, 81);
        sentence.of("NONE for others.");
        for (int what : new int[] {-1, -2, 17, 18, 100, MIN, MAX}) {
            Checks.due("count(" + what + ")", x.count(what), -1);
            Checks.due("count(" + what + ") of nobody", new PartedSide().count(what), -1);
        }
    }

    private static void counted(PartedSide x, int... due) {
        for (int what = 0; what <= 16; what++) {
            Checks.due("count(" + what + ")", x.count(what), due[what]);
        }
    }
}
