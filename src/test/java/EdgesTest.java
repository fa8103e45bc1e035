import java.util.Random;

/** Any arguments in any state: nothing throws, and what answers that there is no such thing changes nothing. */
public final class EdgesTest {
    private static final int[] ODD = {Integer.MIN_VALUE, -100000, -33, -2, -1, 0, 1, 2, 3, 8, 9, 10, 20, 21, 24, 25, 31, 32, 33, 47,
        48, 49, 240, 511, 512, 1024, 2000, 9999, Integer.MAX_VALUE - 1, Integer.MAX_VALUE};

    public static void main(String[] args) {
        Random random = new Random(5);
        oddArguments(random, "");
        oddArguments(random, "sleeper a 1 0; ring 1;");
        oddArguments(random, nine("lies = 1 / (parted - 3) + habit / before; parts = 9999 * 9999 * 22 / bed; chills = 50 / own;"
            + "costs = 2048 * 1024 * 1024 / (0 - own); ring 1; seed 9999; begins 23;"));
        lateCalls(random);
        oddBytes(random);
        dearest();
        Checks.end("EdgesTest");
    }

    private static String nine(String more) {
        StringBuilder text = new StringBuilder();
        for (int i = 0; i < 9; i++) {
            text.append("sleeper ").append((char) ('a' + i)).append(i % 2 == 0 ? " 1 " : " 0 ").append(i).append(';');
        }
        return text + more;
    }

    private static int odd(Random random) {
        return ODD[random.nextInt(ODD.length)];
    }

    private static void oddArguments(Random random, String text) {
        Checks.about("odd arguments of: " + text);
        for (int object = 0; object < 20; object++) {
            PartedSide x = Checks.told(text);
            // Each of these is followed by up to three calls more, and an object is used for 512.
            for (int i = 0; i < 120; i++) {
                int call = random.nextInt(40);
                int a = odd(random);
                int b = odd(random);
                int c = odd(random);
                try {
                    call(x, call, a, b, c);
                    Checks.due("a row that there can be", x.count(3) >= 0 && x.count(3) < 1 << x.count(0), true);
                } catch (RuntimeException e) {
                    Checks.fail("call " + call + " of " + a + ", " + b + ", " + c + " threw " + e);
                }
            }
        }
    }

    /** What is answered after 512 calls is free, but nothing throws. */
    private static void lateCalls(Random random) {
        Checks.about("late calls");
        PartedSide x = Checks.told(nine("lies = before; parts = 99; chills = 50; ring 1;"));
        int thrown = 0;
        for (int i = 0; i < 5000; i++) {
            try {
                call(x, random.nextInt(40), random.nextInt(49), random.nextInt(25), random.nextInt(4));
            } catch (RuntimeException e) {
                thrown++;
            }
        }
        Checks.due("calls that threw", thrown, 0);
    }

    private static void call(PartedSide x, int call, int a, int b, int c) {
        switch (call) {
            case 0: x.feed(a, b, c, a, b); break;
            case 1: x.back(a); break;
            case 2: x.place(); break;
            case 3: x.sleeper(a, b); break;
            case 4: x.turn(a); break;
            case 5: x.whistle(); break;
            case 6: x.change(a, b); break;
            case 7: x.hours(a); break;
            case 8: x.undo(); break;
            case 9: x.after(a, b); break;
            case 10: x.turned(a, b); break;
            case 11: x.soonest(a); break;
            case 12: x.spread(a, b); break;
            case 13: x.leads(a, b, c); break;
            case 14: x.turnTo(a, b); break;
            case 15: x.round(a, b); break;
            case 16: x.rule(a); break;
            case 17: x.coldest(a); break;
            case 18: x.run(a); break;
            case 19: x.unlike(); break;
            case 20: x.eden(a); break;
            case 21: x.duel(a, b); break;
            case 22: x.sentry(a, b); break;
            case 23: x.parting(a); break;
            case 24: x.shows(a); break;
            case 25: x.still(a); break;
            case 26: x.again(); break;
            case 27: x.worst(a, b); break;
            case 28: x.changeBest(a, b); break;
            case 29: x.leave(a); break;
            case 30: x.then(a, b, c); break;
            case 31: x.year(a, b); break;
            case 32: x.tell(a, b, c > 0); break;
            case 33: x.forget(); break;
            case 34: x.lay(a, b); break;
            case 35: x.look(a, b); break;
            case 36: x.hold(a); break;
            case 37: x.restore(a); break;
            default: x.count(a); break;
        }
    }

    /** Texts of any bytes, and whole tapes of one sign: each is read, or told to be faulty within itself. */
    private static void oddBytes(Random random) {
        Checks.about("odd bytes");
        for (int sign = 0; sign < 256; sign++) {
            PartedSide x = new PartedSide();
            int four = sign << 24 | sign << 16 | sign << 8 | sign;
            for (int i = 0; i < 100; i++) {
                x.feed(four, four, four, four, four);
            }
            boolean blank = sign == 9 || sign == 10 || sign == 13 || sign == 32;
            Checks.due("read() of the sign " + sign, x.read(), blank ? 0 : 1);
            Checks.due("place() of the sign " + sign, x.place(), blank ? -1 : 0);
        }
        for (int i = 0; i < 2000; i++) {
            PartedSide x = new PartedSide();
            int feeds = random.nextInt(5);
            for (int k = 0; k < feeds; k++) {
                x.feed(random.nextInt(), random.nextInt(), random.nextInt(), random.nextInt(), random.nextInt());
            }
            int length = x.count(7);
            int fault = x.read();
            Checks.due("a place within the text", fault == 0 ? x.place() == -1 : x.place() >= 0 && x.place() <= length, true);
        }
    }

    /** As many of the dearest calls as one object is used for, by long laws that look at partings, end soon. */
    private static void dearest() {
        Checks.about("dearest");
        String law = "own" + " + parted * before - behind / 3".repeat(12);
        PartedSide x = Checks.told(nine("ring 1; lies = " + law + "; parts = " + law + ";"));
        long begun = System.nanoTime();
        for (int i = 0; i < 20; i++) {
            x.tell(i % 9, 24 - i, i % 3 == 0);
        }
        int least = Integer.MAX_VALUE;
        for (int i = 0; i < 85; i++) {
            least = Math.min(least, x.turned(24, 0));
            least = Math.min(least, x.leads(i, 24, 0));
            least = Math.min(least, x.eden(24));
            least = Math.min(least, x.look(i % 3, 24));
            least = Math.min(least, x.turnTo(i, 24));
        }
        long seconds = (System.nanoTime() - begun) / 1_000_000_000L;
        Checks.due("all answered", least >= -2, true);
        Checks.due("within two minutes", seconds < 120, true);
        System.out.println("the dearest calls took " + seconds + " s");
    }
}
