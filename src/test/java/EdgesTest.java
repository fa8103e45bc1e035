import java.util.Random;

/** Any arguments in any state: nothing throws, and what answers that there is no such thing changes nothing. */
public final class EdgesTest {
    private static final int[] ODD = {Integer.MIN_VALUE, -100000, -33, -2, -1, 0, 1, 2, 3, 8, 9, 10, 20, 21, 24, 25, 31, 32, 33, 47,
        48, 49, 240, 511, 512, 1024, 2000, 9999, Integer.MAX_VALUE - 1, Integer.MAX_VALUE};
    private static final int CALLS = 40;

    public static void main(String[] args) {
        Random random = new Random(5);
        oddArguments(random, "");
        oddArguments(random, "sleeper a 1 0; ring 1;");
        oddArguments(random, nine("lies = 1 / (parted - 3) + habit / before; parts = 9999 * 9999 * 22 / bed; chills = 50 / own;"
            + "costs = 2048 * 1024 * 1024 / (0 - own); ring 1; seed 9999; begins 23;"));
        lateCalls(random);
        oddBytes(random);
        dearest();
        Checks.end("EdgesTest");
    }

    private static String nine(String more) {
        StringBuilder text = new StringBuilder();
        for (int i = 0; i < 9; i++) {
            text.append("sleeper ").append((char) ('a' + i)).append(i % 2 == 0 ? " 1 " : " 0 ").append(i).append(';');
        }
        return text + more;
    }

    private static int odd(Random random) {
        return ODD[random.nextInt(ODD.length)];
    }

    /** Of two alike objects the one is given all calls, the other those alone that did something: alike they stay. */
    private static void oddArguments(Random random, String text) {
        Checks.about("odd arguments of: " + text);
        for (int object = 0; object < 60; object++) {
            PartedSide x = Checks.told(text);
            PartedSide twin = Checks.told(text);
            // Each of these is followed by up to two calls more, what is seen at the end takes some 120 and an object is used for 512.
            for (int i = 0; i < 120; i++) {
                int call = random.nextInt(CALLS);
                int a = odd(random);
                int b = odd(random);
                int c = odd(random);
                try {
                    if (isDone(call, call(x, call, a, b, c))) {
                        call(twin, call, a, b, c);
                    }
                    Checks.due("a row that there can be", x.count(3) >= 0 && x.count(3) < 1 << x.count(0), true);
                } catch (RuntimeException e) {
                    Checks.fail("call " + call + " of " + a + ", " + b + ", " + c + " threw " + e);
                }
            }
            Checks.due("count(7)", x.count(7), twin.count(7));
            Checks.same("what goes on", Checks.seen(x), Checks.seen(twin));
        }
    }

    /** Whether a call with this answer did something: the others only answer, or answered that there is no such thing. */
    private static boolean isDone(int call, int answer) {
        switch (call) {
            case 0: case 1: case 7: case 32: return answer >= 0;
            case 4: case 5: case 6: case 8: case 36: case 37: return answer == 1;
            case 33: case 38: return true;
            default: return false;
        }
    }

    /** What is answered after 512 calls is free, but nothing throws. */
    private static void lateCalls(Random random) {
        Checks.about("late calls");
        PartedSide x = Checks.told(nine("lies = before; parts = 99; chills = 50; ring 1;"));
        int thrown = 0;
        for (int i = 0; i < 5000; i++) {
            try {
                call(x, random.nextInt(CALLS), random.nextInt(49), random.nextInt(25), random.nextInt(4));
            } catch (RuntimeException e) {
                thrown++;
            }
        }
        Checks.due("calls that threw", thrown, 0);
    }

    private static int call(PartedSide x, int call, int a, int b, int c) {
        switch (call) {
            case 0: return x.feed(a, b, c, a, b);
            case 1: return x.back(a);
            case 2: return x.place();
            case 3: return x.sleeper(a, b);
            case 4: return x.turn(a) ? 1 : 0;
            case 5: return x.whistle() ? 1 : 0;
            case 6: return x.change(a, b) ? 1 : 0;
            case 7: return x.hours(a);
            case 8: return x.undo() ? 1 : 0;
            case 9: return x.after(a, b);
            case 10: return x.turned(a, b);
            case 11: return x.soonest(a);
            case 12: return x.spread(a, b);
            case 13: return x.leads(a, b, c);
            case 14: return x.turnTo(a, b);
            case 15: return x.round(a, b);
            case 16: return x.rule(a);
            case 17: return x.coldest(a);
            case 18: return x.run(a);
            case 19: return x.unlike();
            case 20: return x.eden(a);
            case 21: return x.duel(a, b);
            case 22: return x.sentry(a, b);
            case 23: return x.parting(a);
            case 24: return x.shows(a);
            case 25: return x.still(a);
            case 26: return x.again();
            case 27: return x.worst(a, b);
            case 28: return x.changeBest(a, b);
            case 29: return x.leave(a);
            case 30: return x.then(a, b, c);
            case 31: return x.year(a, b);
            case 32: return x.tell(a, b, c > 0);
            case 33: return x.forget();
            case 34: return x.lay(a, b);
            case 35: return x.look(a, b);
            case 36: return x.hold(a) ? 1 : 0;
            case 37: return x.restore(a) ? 1 : 0;
            case 38: return readOddBytes(x);
            default: return x.count(a);
        }
    }

    /** A read of no bytes would leave nobody there for all calls behind it. */
    private static int readOddBytes(PartedSide x) {
        return x.count(7) > 0 ? x.read() : 0;
    }

    /** Texts of any bytes, and whole tapes of one sign: each is read, or told to be faulty within itself. */
    private static void oddBytes(Random random) {
        Checks.about("odd bytes");
        for (int sign = 0; sign < 256; sign++) {
            PartedSide x = new PartedSide();
            int four = sign << 24 | sign << 16 | sign << 8 | sign;
            for (int i = 0; i < 100; i++) {
                x.feed(four, four, four, four, four);
            }
            boolean blank = sign == 9 || sign == 10 || sign == 13 || sign == 32;
            Checks.due("read() of the sign " + sign, x.read(), blank ? 0 : 1);
            Checks.due("place() of the sign " + sign, x.place(), blank ? -1 : 0);
        }
        for (int i = 0; i < 2000; i++) {
            PartedSide x = new PartedSide();
            int feeds = random.nextInt(5);
            for (int k = 0; k < feeds; k++) {
                x.feed(random.nextInt(), random.nextInt(), random.nextInt(), random.nextInt(), random.nextInt());
            }
            int length = x.count(7);
            int fault = x.read();
            Checks.due("a place within the text", fault == 0 ? x.place() == -1 : x.place() >= 0 && x.place() <= length, true);
        }
    }

    /** The dearest calls, by long laws that look at partings, are answered. */
    private static void dearest() {
        Checks.about("dearest");
        String law = "own" + " + parted * before - behind / 3".repeat(12);
        PartedSide x = Checks.told(nine("ring 1; lies = " + law + "; parts = " + law + ";"));
        for (int i = 0; i < 20; i++) {
            x.tell(i % 9, 24 - i, i % 3 == 0);
        }
        int least = Integer.MAX_VALUE;
        for (int i = 0; i < 20; i++) {
            least = Math.min(least, x.turned(24, 0));
            least = Math.min(least, x.leads(i, 24, 0));
            least = Math.min(least, x.eden(24));
            least = Math.min(least, x.look(i % 3, 24));
            least = Math.min(least, x.turnTo(i, 24));
        }
        Checks.due("all answered", least >= -2, true);
    }
}
