import java.nio.charset.StandardCharsets;
import java.util.Random;

/** Random texts and random calls, each answer as the slow model in support/Model.java tells it. */
public final class ModelTest {
    private static final String[] VARS = {"own", "before", "behind", "habit", "draft", "hour", "bed", "many", "parted"};
    private static final int[] faults = new int[7];
    private static final int[] sizes = new int[10];
    private static Random random;
    private static PartedSide x;
    private static Model m;

    public static void main(String[] args) {
        int runs = args.length > 0 ? Integer.parseInt(args[0]) : 260;
        long first = args.length > 1 ? Long.parseLong(args[1]) : 1;
        for (long run = first; run < first + runs; run++) {
            Checks.about("model run " + run);
            random = new Random(run);
            x = new PartedSide();
            m = new Model();
            int begun = Checks.checked();
            int texts = 1 + random.nextInt(3);
            for (int i = 0; i < texts && Checks.checked() - begun < 300; i++) {
                readBoth(text(run % 10 == 0 ? 9 : 6));
                // Each answer is one call, and an object is used for 512.
                for (int calls = 0; calls < 90 && Checks.checked() - begun < 500; calls++) {
                    call();
                }
            }
        }
        for (int i = 0; i < 6000; i++) {
            Checks.about("faulty text " + i);
            random = new Random(-i);
            x = new PartedSide();
            m = new Model();
            readBoth(spoilt(text(10)));
        }
        // Should the texts no longer reach a kind of fault or a size, the test would prove nothing of it.
        for (int i = 0; i < 7; i++) {
            Checks.due("fault " + i + " comes up", i == 4 || faults[i] > 20, true);
        }
        for (int i = 0; i < 10; i++) {
            Checks.due(i + " sleepers come up", sizes[i] > 20, true);
        }
        Checks.end("ModelTest");
    }

    private static void readBoth(String text) {
        byte[] bytes = text.getBytes(StandardCharsets.ISO_8859_1);
        for (int at = 0; at < bytes.length; at += 20) {
            int[] v = new int[5];
            for (int i = 0; i < 20; i++) {
                v[i / 4] = v[i / 4] << 8 | (at + i < bytes.length ? bytes[at + i] & 255 : 32);
            }
            Checks.due("feed", x.feed(v[0], v[1], v[2], v[3], v[4]), m.feed(v[0], v[1], v[2], v[3], v[4]));
        }
        int pad = (20 - bytes.length % 20) % 20;
        Checks.due("back", x.back(pad), m.back(pad));
        Checks.due("count(7)", x.count(7), m.count(7));
        int fault = m.read();
        faults[fault]++;
        sizes[m.count(0)]++;
        Checks.due("read() of " + text, x.read(), fault);
        Checks.due("place() of " + text, x.place(), m.place());
    }

    private static String text(int most) {
        StringBuilder s = new StringBuilder();
        int men = random.nextInt(most + 1);
        for (int i = 0; i < men; i++) {
            s.append("sleeper ").append(name(i)).append(' ').append(random.nextInt(2)).append(' ')
                .append(random.nextInt(10)).append(";").append(blank());
        }
        int colds = men == 0 ? 0 : random.nextInt(4);
        for (int i = 0; i < colds; i++) {
            s.append("cold ").append(random.nextInt(Math.min(men, 9))).append(' ').append(random.nextInt(100)).append(';');
        }
        String[] words = {"lies", "parts", "chills", "costs"};
        for (String word : words) {
            if (random.nextInt(5) > 0) {
                s.append(word).append(blank()).append("=").append(law(word)).append(";").append(blank());
            }
        }
        if (random.nextBoolean()) {
            s.append("ring ").append(random.nextInt(2)).append(";");
        }
        if (random.nextBoolean()) {
            s.append("begins ").append(random.nextInt(24)).append(";\n");
        }
        if (random.nextBoolean()) {
            s.append("seed ").append(random.nextInt(10000)).append("\t;");
        }
        return s.toString();
    }

    private static String name(int i) {
        return random.nextInt(60) == 0 ? "abcdefgh" : (char) ('a' + i) + "x".repeat(i % 7);
    }

    private static String blank() {
        return new String[] {"", " ", "\n", "\r\n", "\t "}[random.nextInt(5)];
    }

    private static String law(String word) {
        StringBuilder s = new StringBuilder();
        int ifs = random.nextInt(4) == 0 ? random.nextInt(5) : random.nextInt(2);
        for (int i = 0; i < ifs; i++) {
            s.append(" if ").append(sum(2)).append(" < ").append(sum(2)).append(" then ").append(sum(2)).append(" else ");
        }
        s.append(' ').append(word.equals("lies") && random.nextBoolean() ? "before + behind - own" : sum(0));
        if (word.equals("chills") && random.nextBoolean()) {
            s.append(" * 20");
        }
        return s.toString();
    }

    private static String sum(int depth) {
        StringBuilder s = new StringBuilder(product(depth));
        while (random.nextInt(3) == 0) {
            s.append(random.nextBoolean() ? " + " : "-").append(product(depth));
        }
        return s.toString();
    }

    private static String product(int depth) {
        StringBuilder s = new StringBuilder(unit(depth));
        while (random.nextInt(4) == 0) {
            s.append(random.nextBoolean() ? "*" : " / ").append(unit(depth));
        }
        return s.toString();
    }

    private static String unit(int depth) {
        if (depth < 5 && random.nextInt(6) == 0) {
            return "(" + sum(depth + 1) + ")";
        }
        if (random.nextInt(3) == 0) {
            return "" + random.nextInt(random.nextInt(4) == 0 ? 10000 : 4);
        }
        return VARS[random.nextInt(random.nextInt(3) == 0 ? 9 : 5)];
    }

    private static String spoilt(String text) {
        StringBuilder s = new StringBuilder(text);
        for (int wrong = random.nextInt(3); wrong > 0; wrong--) {
            s.insert(text.indexOf(';', random.nextInt(text.length() + 1)) + 1, wrongTell());
        }
        int changes = random.nextInt(3) == 0 ? 1 + random.nextInt(2) : 0;
        String[] bits = {";", "=", "if ", "then", "else", "(", ")", "9", "10", "a", "abcdefgh ", "Z", ".", "\u00e9", "\0", "<", "+",
            "sleeper ", "cold ", "seed 10000;", "((((((("};
        for (int i = 0; i < changes; i++) {
            int at = random.nextInt(s.length() + 1);
            if (random.nextBoolean() && at < s.length()) {
                s.deleteCharAt(at);
            } else {
                s.insert(at, bits[random.nextInt(bits.length)]);
            }
        }
        if (random.nextInt(8) == 0) {
            s.append("parts = 1").append(" + 1".repeat(150 + random.nextInt(60))).append(";");
        }
        return s.length() > 1990 ? s.substring(0, 1990) : s.toString();
    }

    /** Of the right form, but mostly not to be. */
    private static String wrongTell() {
        String[] tells = {"cold 8 99;", "cold 9 1;", "cold 0 100;", "ring 2;", "begins 24;", "sleeper zz 1 10;", "sleeper a 1 1;",
            "sleeper yy 2 1;", "cold 3 1;", "seed 9999;"};
        return tells[random.nextInt(tells.length)];
    }

    /** Mostly within the range, now and then just beyond it, or far. */
    private static int near(int least, int most) {
        int which = random.nextInt(40);
        if (which == 0) {
            return least - 1;
        }
        if (which == 1) {
            return most + 1;
        }
        if (which == 2) {
            return random.nextInt();
        }
        if (which == 3) {
            return most;
        }
        return most < least ? least : least + random.nextInt(most - least + 1);
    }

    private static int bed() {
        return near(0, m.count(0) - 1);
    }

    private static int row() {
        return near(0, (1 << m.count(0)) - 1);
    }

    private static int few(int most) {
        return random.nextInt(5) == 0 ? near(0, most) : near(0, 5);
    }

    private static void call() {
        int which = random.nextInt(52);
        if (which < 20) {
            doSomething(which);
        } else if (which < 40) {
            askOfTurning(which);
        } else {
            askTheRest(which);
        }
        Checks.due("count(3)", x.count(3), m.count(3));
    }

    private static void doSomething(int which) {
        int a = bed();
        int b = bed();
        int n = few(48);
        int what = near(0, 9);
        int slot = near(0, 2);
        boolean left = random.nextBoolean();
        switch (which) {
            case 0: Checks.due("turn(" + a + ")", x.turn(a), m.turn(a)); break;
            case 1: Checks.due("whistle()", x.whistle(), m.whistle()); break;
            case 2: Checks.due("change(" + a + ", " + b + ")", x.change(a, b), m.change(a, b)); break;
            case 3: case 4: Checks.due("hours(" + n + ")", x.hours(n), m.hours(n)); break;
            case 5: Checks.due("undo()", x.undo(), m.undo()); break;
            case 6: Checks.due("hold(" + slot + ")", x.hold(slot), m.hold(slot)); break;
            case 7: Checks.due("restore(" + slot + ")", x.restore(slot), m.restore(slot)); break;
            case 8: case 9: case 10:
                int t = few(24);
                Checks.due("tell(" + a + ", " + t + ", " + left + ")", x.tell(a, t, left), m.tell(a, t, left));
                break;
            case 11:
                if (random.nextInt(4) == 0) {
                    Checks.due("forget()", x.forget(), m.forget());
                }
                break;
            case 12: case 13: case 14:
                Checks.due("sleeper(" + a + ", " + what + ")", x.sleeper(a, what), m.sleeper(a, what));
                break;
            default:
                int c = near(0, 16);
                Checks.due("count(" + c + ")", x.count(c), m.count(c));
                break;
        }
    }

    private static void askOfTurning(int which) {
        int a = bed();
        int r = row();
        int n = few(24);
        int far = few(48);
        int w = near(0, 1);
        String args = "(" + n + ", " + w + ")";
        switch (which) {
            case 20: Checks.due("after(" + r + ", " + far + ")", x.after(r, far), m.after(r, far)); break;
            case 21: case 22: Checks.due("turned" + args, x.turned(n, w), m.turned(n, w)); break;
            case 23: Checks.due("soonest(" + w + ")", x.soonest(w), m.soonest(w)); break;
            case 24: Checks.due("spread(" + a + ", " + n + ")", x.spread(a, n), m.spread(a, n)); break;
            case 25: Checks.due("leads(" + r + ", " + n + ", " + w + ")", x.leads(r, n, w), m.leads(r, n, w)); break;
            case 26: Checks.due("turnTo(" + r + ", " + n + ")", x.turnTo(r, n), m.turnTo(r, n)); break;
            case 27: Checks.due("round(" + far + ", " + w + ")", x.round(far, w), m.round(far, w)); break;
            case 28: Checks.due("rule(" + a + ")", x.rule(a), m.rule(a)); break;
            case 29: Checks.due("coldest(" + w + ")", x.coldest(w), m.coldest(w)); break;
            case 30: Checks.due("run(" + w + ")", x.run(w), m.run(w)); break;
            case 31: Checks.due("unlike()", x.unlike(), m.unlike()); break;
            case 32: Checks.due("eden(" + n + ")", x.eden(n), m.eden(n)); break;
            case 33: case 34: Checks.due("duel" + args, x.duel(n, w), m.duel(n, w)); break;
            case 35: case 36: Checks.due("sentry" + args, x.sentry(n, w), m.sentry(n, w)); break;
            case 37: case 38: Checks.due("worst" + args, x.worst(n, w), m.worst(n, w)); break;
            default: Checks.due("changeBest" + args, x.changeBest(n, w), m.changeBest(n, w)); break;
        }
    }

    private static void askTheRest(int which) {
        int a = bed();
        int n = few(24);
        int far = few(48);
        int w = near(0, 1);
        int k = near(0, m.count(9));
        switch (which) {
            case 40: Checks.due("parting(" + w + ")", x.parting(w), m.parting(w)); break;
            case 41: Checks.due("shows(" + far + ")", x.shows(far), m.shows(far)); break;
            case 42: Checks.due("still(" + w + ")", x.still(w), m.still(w)); break;
            case 43: Checks.due("again()", x.again(), m.again()); break;
            case 44: Checks.due("leave(" + a + ")", x.leave(a), m.leave(a)); break;
            case 45: case 46:
                int t = near(0, 2);
                Checks.due("then(" + a + ", " + far + ", " + t + ")", x.then(a, far, t), m.then(a, far, t));
                break;
            case 47:
                int s = near(1, 20);
                Checks.due("year(" + far + ", " + s + ")", x.year(far, s), m.year(far, s));
                break;
            case 48: case 49:
                int what = near(0, 3);
                Checks.due("lay(" + k + ", " + what + ")", x.lay(k, what), m.lay(k, what));
                break;
            default: Checks.due("look(" + k + ", " + n + ")", x.look(k, n), m.look(k, n)); break;
        }
    }
}
