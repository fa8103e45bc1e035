/** Promises 35 to 38: what is told, how all may lie by it, and where to look next. */
public final class KnownTest {
    private static final int MIN = Integer.MIN_VALUE;
    private static final int MAX = Integer.MAX_VALUE;
    private static final String FOUR = "sleeper a 1 0; sleeper b 0 0; sleeper c 0 0; sleeper d 0 0; chills = 100;";

    public static void main(String[] args) {
        promise35();
        promise36();
        promise37();
        promise38();
        fewerSleepers();
        Checks.end("KnownTest");
    }

    private static void promise35() {
        Checks.about("promise 35");
        PartedSide x = Checks.told(FOUR);
        int[][] wrong = {{-1, 0}, {4, 0}, {0, -1}, {0, 25}, {MIN, 0}, {MAX, 0}, {0, MIN}, {0, MAX}};
        for (int[] w : wrong) {
            Checks.due("tell(" + w[0] + ", " + w[1] + ", true)", x.tell(w[0], w[1], true), -1);
        }
        Checks.due("count(9)", x.count(9), 0);
        for (int i = 0; i < 20; i++) {
            Checks.due("tell " + i, x.tell(i % 4, i == 0 ? 24 : 0, i % 2 == 0), i);
        }
        Checks.due("tell 20", x.tell(0, 0, true), -1);
        Checks.due("count(9)", x.count(9), 20);
        Checks.due("count(8): to tell is no thing done", x.count(8), 0);
        Checks.due("tell to nobody", new PartedSide().tell(0, 0, true), -1);
    }

    private static void promise36() {
        Checks.about("promise 36");
        PartedSide x = Checks.told(FOUR);
        Checks.due("forget()", x.forget(), 0);
        x.tell(0, 0, true);
        x.tell(1, 3, false);
        x.hours(1);
        x.undo();
        Checks.due("forget()", x.forget(), 2);
        Checks.due("count(9)", x.count(9), 0);
        Checks.due("forget()", x.forget(), 0);
        Checks.due("lay(1, 0)", x.lay(1, 0), -1);
        Checks.due("tell", x.tell(2, 0, true), 0);
        Checks.due("lay(1, 2)", x.lay(1, 2), 4);
    }

    private static void lay(PartedSide x, int k, int howMany, int least, int left, int right) {
        Checks.due("lay(" + k + ", 0)", x.lay(k, 0), howMany);
        Checks.due("lay(" + k + ", 1)", x.lay(k, 1), least);
        Checks.due("lay(" + k + ", 2)", x.lay(k, 2), left);
        Checks.due("lay(" + k + ", 3)", x.lay(k, 3), right);
    }

    private static void promise37() {
        Checks.about("promise 37");
        PartedSide x = Checks.told(FOUR + "lies = before; ring 1;");
        lay(x, 0, 16, 0, 0, 0);
        x.tell(2, 1, true);
        x.tell(2, 24, false);
        x.tell(2, 0, false);
        x.tell(0, 3, true);
        x.tell(1, 1, true);
        x.tell(1, 5, false);
        lay(x, 1, 8, 2, 2, 0);
        lay(x, 2, 4, 2, 2, 4);
        lay(x, 3, 4, 2, 2, 4);
        lay(x, 4, 4, 2, 2, 4);
        lay(x, 5, 2, 3, 3, 4);
        lay(x, 6, 0, -2, -2, -2);
        Checks.due("lay(0, 0)", x.lay(0, 0), 16);
        int[][] wrong = {{7, 0}, {-1, 0}, {0, 4}, {0, -1}, {MIN, 0}, {MAX, 0}, {0, MIN}, {0, MAX}};
        for (int[] w : wrong) {
            Checks.due("lay(" + w[0] + ", " + w[1] + ")", x.lay(w[0], w[1]), -1);
        }
        // by partings of now: b lies left next only if theirs shows
        x = Checks.told("sleeper a 0 0; sleeper b 1 0; lies = parted;");
        x.tell(0, 1, true);
        x.tell(1, 1, false);
        lay(x, 1, 0, -2, -2, -2);
        x.hours(1);
        Checks.due("lay(2, 0), b lies left next", x.lay(2, 0), 0);
        x.change(0, 1);
        lay(x, 2, 4, 0, 0, 0);
        x = new PartedSide();
        lay(x, 0, 1, 0, 0, 0);
    }

    /** Rows of many sleepers that fit are none of fewer sleepers. */
    private static void fewerSleepers() {
        Checks.about("fewer sleepers");
        PartedSide x = new PartedSide();
        String nine = "";
        for (int i = 0; i < 9; i++) {
            nine += "sleeper " + (char) ('a' + i) + " 1 0;";
        }
        Checks.feed(x, nine + "lies = 1;");
        x.read();
        Checks.due("look(0, 1)", x.look(0, 1), 0);
        Checks.feed(x, "sleeper a 0 0; sleeper b 0 0; lies = if bed < 1 then 1 else own;");
        x.read();
        x.tell(0, 0, false);
        Checks.due("look(1, 1), a lies left then anyway", x.look(1, 1), 1);
        Checks.due("lay(1, 0)", x.lay(1, 0), 2);
    }

    private static void promise38() {
        Checks.about("promise 38");
        PartedSide x = Checks.told(FOUR + "lies = if bed < 1 then before + own + behind else own;");
        Checks.due("look(0, 0), all alike", x.look(0, 0), 0);
        // behind an hour a lies left in 12 of 16 rows, b, c and d in 8
        Checks.due("look(0, 1)", x.look(0, 1), 1);
        x.tell(1, 4, true);
        Checks.due("look(1, 0), b is known", x.look(1, 0), 0);
        Checks.due("look(1, 24), a and b are known then", x.look(1, 24), 2);
        x.tell(2, 0, false);
        Checks.due("look(2, 24)", x.look(2, 24), 3);
        Checks.due("look(1, 24), by the first alone", x.look(1, 24), 2);
        x.tell(3, 0, false);
        Checks.due("look(3, 24), nothing is gained", x.look(3, 24), 0);
        Checks.due("lay(3, 0)", x.lay(3, 0), 2);
        x.tell(3, 0, true);
        Checks.due("look(4, 0), none is left", x.look(4, 0), -2);
        x.forget();
        for (int bed = 0; bed < 4; bed++) {
            x.tell(bed, 0, bed == 2);
        }
        Checks.due("look(4, 0), one row is left", x.look(4, 0), 0);
        Checks.due("look(0, 0) of nobody", new PartedSide().look(0, 0), -2);
        Checks.due("look(0, 25) of nobody", new PartedSide().look(0, 25), -1);
        int[][] wrong = {{5, 0}, {-1, 0}, {0, -1}, {0, 25}, {MIN, 0}, {MAX, 0}, {0, MIN}, {0, MAX}};
        for (int[] w : wrong) {
            Checks.due("look(" + w[0] + ", " + w[1] + ")", x.look(w[0], w[1]), -1);
        }
    }
}
