import java.nio.charset.StandardCharsets;

/** Counts what is not as due, and feeds whole texts. */
final class Checks {
    private static int checked = 0;
    private static int wrong = 0;
    private static String about = "";

    private Checks() {
    }

    static void about(String what) {
        about = what;
    }

    static void due(String call, long got, long want) {
        checked++;
        if (got != want) {
            wrong++;
            if (wrong <= 40) {
                System.out.println(about + ": " + call + " answered " + got + ", due is " + want);
            }
        }
    }

    static void due(String call, boolean got, boolean want) {
        due(call, got ? 1 : 0, want ? 1 : 0);
    }

    static void fail(String why) {
        due(why, 1, 0);
    }

    static int checked() {
        return checked;
    }

    static void end(String name) {
        System.out.println(name + ": " + checked + " answers, " + wrong + " not as due");
        if (wrong != 0 || checked == 0) {
            System.exit(1);
        }
    }

    static void feed(PartedSide x, String text) {
        byte[] bytes = text.getBytes(StandardCharsets.ISO_8859_1);
        int whole = (bytes.length + 19) / 20 * 20;
        for (int at = 0; at < whole; at += 20) {
            x.feed(four(bytes, at), four(bytes, at + 4), four(bytes, at + 8), four(bytes, at + 12), four(bytes, at + 16));
        }
        x.back(whole - bytes.length);
    }

    private static int four(byte[] bytes, int at) {
        int all = 0;
        for (int i = at; i < at + 4; i++) {
            all = all << 8 | (i < bytes.length ? bytes[i] & 255 : ' ');
        }
        return all;
    }

    static PartedSide told(String text) {
        PartedSide x = new PartedSide();
        feed(x, text);
        due("read() of " + text, x.read(), 0);
        return x;
    }

    /** Beds a, b, c, .. of habit 0, lying as the digits tell, as a text. */
    static String beds(String digits) {
        StringBuilder text = new StringBuilder();
        for (int i = 0; i < digits.length(); i++) {
            text.append("sleeper ").append((char) ('a' + i)).append(' ').append(digits.charAt(i)).append(" 0;");
        }
        return text.toString();
    }

    static PartedSide row(String digits, String more) {
        return told(beds(digits) + more);
    }

    /** All that can be seen of what goes on, but for the tape. */
    static String seen(PartedSide x) {
        StringBuilder all = new StringBuilder();
        for (int what = 0; what <= 16; what++) {
            all.append(what == 7 ? "" : x.count(what) + " ");
        }
        return all + sleepers(x);
    }

    static String sleepers(PartedSide x) {
        StringBuilder all = new StringBuilder();
        for (int bed = 0; bed < x.count(0); bed++) {
            for (int what = 0; what <= 9; what++) {
                all.append(x.sleeper(bed, what)).append(what == 9 ? "; " : " ");
            }
        }
        return all.toString();
    }

    static void same(String call, String got, String want) {
        due(call + ": " + got + " | " + want, got.equals(want), true);
    }

    /** A text with a fault: its number and its place. */
    static void fault(String text, int number, int place) {
        PartedSide x = new PartedSide();
        feed(x, text);
        due("read() of " + shown(text), x.read(), number);
        due("place() of " + shown(text), x.place(), place);
    }

    private static String shown(String text) {
        return text.length() <= 120 ? text : text.substring(0, 60) + " .. " + text.substring(text.length() - 50);
    }

    static String repeated(String part, int times) {
        return part.repeat(times);
    }
}
