import java.util.ArrayDeque;
import java.util.ArrayList;
import java.util.Deque;
import java.util.HashMap;
import java.util.HashSet;
import java.util.LinkedHashMap;
import java.util.List;
import java.util.Map;
import java.util.Set;

/** The document once more, slow and by other ways: a stack of grammar symbols, worlds copied for every hour. */
final class Model {
    static final class Tok {
        final String kind;
        final String text;
        final int place;

        Tok(String kind, String text, int place) {
            this.kind = kind;
            this.text = text;
            this.place = place;
        }
    }

    static final class Man {
        int name;
        int habit;
        int parting;
        int turned;
        boolean left;

        Man copy() {
            Man m = new Man();
            m.name = name;
            m.habit = habit;
            m.parting = parting;
            m.turned = turned;
            m.left = left;
            return m;
        }
    }

    static final class World {
        List<Man> beds = new ArrayList<>();
        int hour;
        int chilled;

        World copy() {
            World w = new World();
            for (Man m : beds) {
                w.beds.add(m.copy());
            }
            w.hour = hour;
            w.chilled = chilled;
            return w;
        }

        int row() {
            int row = 0;
            for (int b = 0; b < beds.size(); b++) {
                if (beds.get(b).left) {
                    row += 1 << b;
                }
            }
            return row;
        }

        World as(int row) {
            World w = copy();
            for (int b = 0; b < beds.size(); b++) {
                w.beds.get(b).left = (row & (1 << b)) != 0;
            }
            return w;
        }
    }

    private static final Set<String> WORDS = Set.of("sleeper", "cold", "lies", "parts", "chills", "costs", "ring", "begins",
        "seed", "if", "then", "else", "own", "before", "behind", "habit", "draft", "hour", "bed", "many", "parted");
    private static final Set<String> VARS = Set.of("own", "before", "behind", "habit", "draft", "hour", "bed", "many", "parted");

    private final StringBuilder tape = new StringBuilder();
    private int place = -1;
    private Map<Integer, Integer> cold = new HashMap<>();
    private Map<String, List<Tok>> laws = new HashMap<>();
    private boolean ring;
    private int begins;
    private int seed;
    private World w = new World();
    private final Deque<World> past = new ArrayDeque<>();
    private final World[] slots = new World[3];
    private final List<int[]> told = new ArrayList<>();

    // ---- the text

    private static List<Tok> tokens(String s) {
        List<Tok> all = new ArrayList<>();
        int i = 0;
        while (i < s.length()) {
            char c = s.charAt(i);
            int j = i + 1;
            if (c == 9 || c == 10 || c == 13 || c == 32) {
                i++;
                continue;
            }
            String kind;
            if (c >= 'a' && c <= 'z') {
                while (j < s.length() && s.charAt(j) >= 'a' && s.charAt(j) <= 'z') {
                    j++;
                }
                String t = s.substring(i, j);
                kind = j - i > 8 ? "?" : WORDS.contains(t) ? t : "NAME";
            } else if (c >= '0' && c <= '9') {
                while (j < s.length() && s.charAt(j) >= '0' && s.charAt(j) <= '9') {
                    j++;
                }
                kind = j - i > 4 ? "?" : "INT";
            } else {
                kind = ";=+-*/<()".indexOf(c) >= 0 ? "" + c : "?";
            }
            all.add(new Tok(kind, s.substring(i, j), i));
            i = j;
        }
        all.add(new Tok("$", "", s.length()));
        return all;
    }

    private static List<String> expansion(String symbol, String ahead) {
        boolean unit = ahead.equals("INT") || VARS.contains(ahead) || ahead.equals("(");
        switch (symbol) {
            case "TEXT": return ahead.equals("$") ? List.of() : List.of("TELL", "TEXT");
            case "TELL":
                switch (ahead) {
                    case "sleeper": return List.of("sleeper", "NAME", "INT", "INT", ";");
                    case "cold": return List.of("cold", "INT", "INT", ";");
                    case "lies": case "parts": case "chills": case "costs": return List.of(ahead, "=", "IFS", "E", ";");
                    case "ring": case "begins": case "seed": return List.of(ahead, "INT", ";");
                    default: return null;
                }
            case "IFS": return ahead.equals("if") ? List.of("if", "E", "<", "E", "then", "E", "else", "IFS") : List.of();
            case "E": return unit ? List.of("PART", "E2") : null;
            case "E2": return ahead.equals("+") || ahead.equals("-") ? List.of(ahead, "PART", "E2") : List.of();
            case "PART": return unit ? List.of("UNIT", "PART2") : null;
            case "PART2": return ahead.equals("*") || ahead.equals("/") ? List.of(ahead, "UNIT", "PART2") : List.of();
            case "UNIT": return ahead.equals("(") ? List.of("(", "E", ")") : unit ? List.of(ahead) : null;
            default: return null;
        }
    }

    private static final Set<String> SYMBOLS = Set.of("TEXT", "TELL", "IFS", "E", "E2", "PART", "PART2", "UNIT");

    /** number and place of a SYNTAX or ROOM fault, or null. */
    private static int[] formFault(List<Tok> toks) {
        Deque<String> stack = new ArrayDeque<>();
        stack.push("TEXT");
        Map<String, Integer> sorts = new HashMap<>();
        int ifs = 0;
        int depth = 0;
        int i = 0;
        while (!stack.isEmpty()) {
            String symbol = stack.pop();
            Tok t = toks.get(i);
            if (SYMBOLS.contains(symbol)) {
                List<String> e = expansion(symbol, t.kind);
                if (e == null) {
                    return new int[] {1, t.place};
                }
                for (int k = e.size() - 1; k >= 0; k--) {
                    stack.push(e.get(k));
                }
                continue;
            }
            if (!symbol.equals(t.kind)) {
                return new int[] {1, t.place};
            }
            if (t.kind.equals("=")) {
                ifs = 0;
            }
            ifs += t.kind.equals("if") ? 1 : 0;
            depth += t.kind.equals("(") ? 1 : t.kind.equals(")") ? -1 : 0;
            int sort = sorts.merge(t.kind, 1, Integer::sum);
            boolean manyOfSort = (t.kind.equals("sleeper") || t.kind.equals("cold")) && sort > 9;
            if (i >= 400 || ifs > 4 || depth > 6 || manyOfSort) {
                return new int[] {2, t.place};
            }
            i++;
        }
        return null;
    }

    int feed(int a, int b, int c, int d, int e) {
        if (tape.length() > 1980) {
            return -1;
        }
        for (int v : new int[] {a, b, c, d, e}) {
            tape.append((char) (v >>> 24)).append((char) (v >>> 16 & 255)).append((char) (v >>> 8 & 255)).append((char) (v & 255));
        }
        return tape.length();
    }

    int back(int n) {
        if (n < 0 || n > tape.length()) {
            return -1;
        }
        tape.setLength(tape.length() - n);
        return tape.length();
    }

    int place() {
        return place;
    }

    int read() {
        String text = tape.toString();
        tape.setLength(0);
        List<Tok> toks = tokens(text);
        int[] fault = formFault(toks);
        if (fault == null) {
            fault = take(toks, text.length());
        }
        place = fault == null ? -1 : fault[1];
        return fault == null ? 0 : fault[0];
    }

    private int[] take(List<Tok> toks, int end) {
        Map<Integer, Integer> newCold = new HashMap<>();
        Map<String, List<Tok>> newLaws = new HashMap<>();
        World nw = new World();
        Map<String, Integer> names = new LinkedHashMap<>();
        int r = 0;
        int s = 0;
        int b = 0;
        List<int[]> faults = new ArrayList<>();
        for (int i = 0; !toks.get(i).kind.equals("$");) {
            String word = toks.get(i).kind;
            int j = i;
            while (!toks.get(j).kind.equals(";")) {
                j++;
            }
            List<Tok> body = toks.subList(i + 1, j);
            switch (word) {
                case "sleeper":
                    if (names.put(body.get(0).text, 1) != null) {
                        faults.add(new int[] {3, body.get(0).place});
                    }
                    Man m = new Man();
                    m.name = nw.beds.size();
                    m.left = number(body.get(1), 1, faults) == 1;
                    m.habit = number(body.get(2), 9, faults);
                    nw.beds.add(m);
                    break;
                case "cold": newCold.put(number(body.get(0), 8, faults), number(body.get(1), 99, faults)); break;
                case "ring": r = number(body.get(0), 1, faults); break;
                case "begins": b = number(body.get(0), 23, faults); break;
                case "seed": s = number(body.get(0), 9999, faults); break;
                default: newLaws.put(word, body.subList(1, body.size())); break;
            }
            i = j + 1;
        }
        for (int bed : newCold.keySet()) {
            if (bed >= nw.beds.size()) {
                faults.add(new int[] {6, end});
            }
        }
        if (!faults.isEmpty()) {
            return faults.stream().min((x, y) -> x[1] != y[1] ? x[1] - y[1] : x[0] - y[0]).get();
        }
        cold = newCold;
        laws = newLaws;
        ring = r == 1;
        begins = b;
        seed = s;
        nw.hour = b;
        w = nw;
        past.clear();
        told.clear();
        slots[0] = slots[1] = slots[2] = null;
        return null;
    }

    private static int number(Tok t, int most, List<int[]> faults) {
        int n = Integer.parseInt(t.text);
        if (n > most) {
            faults.add(new int[] {5, t.place});
        }
        return n;
    }

    // ---- laws

    private static final class DividedByZero extends RuntimeException {
    }

    private final class Asked {
        final List<Tok> toks;
        final Map<String, Integer> vars;
        int i = 0;

        Asked(List<Tok> toks, Map<String, Integer> vars) {
            this.toks = toks;
            this.vars = vars;
        }

        String kind() {
            return i < toks.size() ? toks.get(i).kind : "";
        }

        int law() {
            while (kind().equals("if")) {
                i++;
                int one = e(true);
                i++;
                int other = e(true);
                i++;
                if (one < other) {
                    return e(true);
                }
                e(false);
                i++;
            }
            return e(true);
        }

        int e(boolean looked) {
            int v = part(looked);
            while (kind().equals("+") || kind().equals("-")) {
                boolean plus = kind().equals("+");
                i++;
                int o = part(looked);
                v = plus ? v + o : v - o;
            }
            return v;
        }

        int part(boolean looked) {
            int v = unit(looked);
            while (kind().equals("*") || kind().equals("/")) {
                boolean times = kind().equals("*");
                i++;
                int o = unit(looked);
                if (!times && o == 0 && looked) {
                    throw new DividedByZero();
                }
                v = times ? v * o : o == 0 ? 0 : (int) ((long) v / (long) o);
            }
            return v;
        }

        int unit(boolean looked) {
            Tok t = toks.get(i++);
            if (t.kind.equals("INT")) {
                return Integer.parseInt(t.text);
            }
            if (t.kind.equals("(")) {
                int v = e(looked);
                i++;
                return v;
            }
            return vars.get(t.kind);
        }
    }

    private Map<String, Integer> vars(World v, int bed) {
        int n = v.beds.size();
        Map<String, Integer> m = new HashMap<>();
        m.put("own", v.beds.get(bed).left ? 1 : 0);
        m.put("before", bed > 0 || ring ? v.beds.get((bed + n - 1) % n).left ? 1 : 0 : 0);
        m.put("behind", bed < n - 1 || ring ? v.beds.get((bed + 1) % n).left ? 1 : 0 : 0);
        m.put("habit", v.beds.get(bed).habit);
        m.put("draft", cold.getOrDefault(bed, 0));
        m.put("hour", v.hour % 24);
        m.put("bed", bed);
        m.put("many", n);
        m.put("parted", v.beds.get(bed).parting);
        return m;
    }

    private int law(String which, Map<String, Integer> vars) {
        List<Tok> toks = laws.get(which);
        if (toks == null) {
            return which.equals("lies") ? vars.get("own") : which.equals("chills") ? 0 : 1;
        }
        try {
            return new Asked(toks, vars).law();
        } catch (DividedByZero d) {
            return 0;
        }
    }

    private int held(String which, World v, int bed, int most) {
        return Math.min(most, Math.max(0, law(which, vars(v, bed))));
    }

    private boolean liesLeft(World v, int bed) {
        return law("lies", vars(v, bed)) > 0;
    }

    private int cost(World v, int set) {
        int all = 0;
        for (int b = 0; b < v.beds.size(); b++) {
            if ((set & 1 << b) != 0) {
                all += held("costs", v, b, 99);
            }
        }
        return all;
    }

    static int lot(int n, int seed, int which) {
        long h = seed & 0xffffffffL;
        for (long it : new long[] {139, which}) {
            h = ((h ^ it) * 1103515245L + 12345L) & 0xffffffffL;
            h ^= h >> 15;
        }
        return (int) ((h >> 1) % n);
    }

    private World next(World v, boolean chills, int bySeed) {
        World n = v.copy();
        for (int b = 0; b < v.beds.size(); b++) {
            Man m = n.beds.get(b);
            int p = held("parts", v, b, 99);
            m.parting = Math.max(-9999, Math.min(9999, m.parting + (m.left ? p : -p)));
            m.left = liesLeft(v, b);
            if (chills && lot(100, bySeed, 16 * v.hour + b) < held("chills", v, b, 100)) {
                m.left = !m.left;
                n.chilled++;
            }
        }
        n.hour++;
        return n;
    }

    private World on(World v, int n) {
        World u = v;
        for (int i = 0; i < n; i++) {
            u = next(u, false, 0);
        }
        return u;
    }

    private World coldOn(int n, int bySeed) {
        World u = w;
        for (int i = 0; i < n; i++) {
            u = next(u, true, bySeed);
        }
        return u;
    }

    private int many() {
        return w.beds.size();
    }

    private int full() {
        return (1 << many()) - 1;
    }

    private boolean bed(int b) {
        return b >= 0 && b < many();
    }

    private static boolean in(int v, int from, int to) {
        return v >= from && v <= to;
    }

    private static int bits(int v) {
        return Integer.bitCount(v);
    }

    private int rowAfter(int row, int n) {
        return on(w.as(row), n).row();
    }

    // ---- calls

    int sleeper(int b, int what) {
        if (!bed(b) || !in(what, 0, 9)) {
            return -100000;
        }
        Man m = w.beds.get(b);
        return new int[] {m.left ? 1 : 0, m.habit, m.parting, cold.getOrDefault(b, 0), m.name, liesLeft(w, b) ? 1 : 0,
            held("parts", w, b, 99), held("chills", w, b, 100), held("costs", w, b, 99), m.turned}[what];
    }

    private void done() {
        past.push(w.copy());
        if (past.size() > 40) {
            past.removeLast();
        }
    }

    boolean turn(int b) {
        if (!bed(b)) {
            return false;
        }
        done();
        w.beds.get(b).left ^= true;
        w.beds.get(b).turned++;
        return true;
    }

    boolean whistle() {
        if (many() == 0) {
            return false;
        }
        done();
        for (Man m : w.beds) {
            m.left = !m.left;
        }
        return true;
    }

    boolean change(int b, int o) {
        if (!bed(b) || !bed(o) || b == o) {
            return false;
        }
        done();
        java.util.Collections.swap(w.beds, b, o);
        return true;
    }

    int hours(int n) {
        if (!in(n, 0, 48)) {
            return -1;
        }
        if (n != 0) {
            done();
        }
        w = coldOn(n, seed).copy();
        return w.hour;
    }

    boolean undo() {
        if (past.isEmpty()) {
            return false;
        }
        w = past.pop();
        return true;
    }

    int after(int row, int n) {
        return in(row, 0, full()) && in(n, 0, 48) ? rowAfter(row, n) : -1;
    }

    private int[] cheapest(int row, int n) {
        int[] best = null;
        for (int set = 0; set <= full(); set++) {
            if (rowAfter(w.row() ^ set, n) == row) {
                int[] key = {cost(w, set), bits(set), set};
                if (best == null || java.util.Arrays.compare(key, best) < 0) {
                    best = key;
                }
            }
        }
        return best;
    }

    int turned(int n, int what) {
        if (!in(n, 0, 24) || !in(what, 0, 1)) {
            return -1;
        }
        int[] best = cheapest(full(), n);
        return best == null ? -2 : what == 0 ? best[0] : best[2];
    }

    int soonest(int what) {
        if (!in(what, 0, 1)) {
            return -1;
        }
        for (int n = 0; n <= 24; n++) {
            for (int who = -1; who < many(); who++) {
                int row = who < 0 ? w.row() : w.row() ^ 1 << who;
                if (rowAfter(row, n) == full()) {
                    return what == 0 ? n : who < 0 ? -3 : who;
                }
            }
        }
        return -2;
    }

    int spread(int b, int n) {
        if (!bed(b) || !in(n, 0, 24)) {
            return -1;
        }
        return rowAfter(w.row(), n) ^ rowAfter(w.row() ^ 1 << b, n);
    }

    int leads(int row, int n, int what) {
        if (!in(row, 0, full()) || !in(n, 0, 24) || !in(what, 0, 1)) {
            return -1;
        }
        List<Integer> all = new ArrayList<>();
        for (int r = 0; r <= full(); r++) {
            if (rowAfter(r, n) == row) {
                all.add(r);
            }
        }
        return what == 0 ? all.size() : all.isEmpty() ? -2 : all.get(0);
    }

    int turnTo(int row, int n) {
        if (!in(row, 0, full()) || !in(n, 0, 24)) {
            return -1;
        }
        int[] best = cheapest(row, n);
        return best == null ? -2 : best[0];
    }

    int round(int n, int what) {
        if (!in(n, 1, 48) || !in(what, 0, 1)) {
            return -1;
        }
        World v = w;
        int turned = 0;
        int costs = 0;
        for (int i = 0; i < n; i++) {
            int right = full() ^ v.row();
            turned += bits(right);
            costs += cost(v, right);
            v = on(v.as(full()), 1);
        }
        return what == 0 ? turned : costs;
    }

    int rule(int b) {
        if (!bed(b)) {
            return -1;
        }
        int all = 0;
        for (int c = 0; c < 8; c++) {
            Map<String, Integer> m = vars(w, b);
            m.put("own", c % 2);
            m.put("before", c / 2 % 2);
            m.put("behind", c / 4);
            all += law("lies", m) > 0 ? 1 << c : 0;
        }
        return all;
    }

    int coldest(int what) {
        if (!in(what, 0, 1)) {
            return -1;
        }
        int most = -1;
        int first = 0;
        for (int h = 0; h < 24; h++) {
            World v = on(w, h);
            int all = 0;
            for (int b = 0; b < many(); b++) {
                all += held("chills", v, b, 100);
            }
            if (all > most) {
                most = all;
                first = h;
            }
        }
        return what == 0 ? first : most;
    }

    int run(int what) {
        if (!in(what, 0, 1)) {
            return -1;
        }
        for (int length = many(); length > 0; length--) {
            for (int first = 0; first < many(); first++) {
                boolean alike = ring || first + length <= many();
                for (int i = 0; i < length && alike; i++) {
                    alike = w.beds.get((first + i) % many()).left == w.beds.get(first).left;
                }
                if (alike) {
                    return what == 0 ? length : first;
                }
            }
        }
        return what == 0 ? 0 : -2;
    }

    int unlike() {
        Set<Set<Integer>> pairs = new HashSet<>();
        for (int b = 0; b < many(); b++) {
            int o = (b + 1) % many();
            if ((b + 1 < many() || ring) && w.beds.get(b).left != w.beds.get(o).left) {
                pairs.add(Set.of(b, o));
            }
        }
        return pairs.size();
    }

    int eden(int n) {
        if (!in(n, 1, 24)) {
            return -1;
        }
        Set<Integer> reached = new HashSet<>();
        for (int r = 0; r <= full(); r++) {
            reached.add(rowAfter(r, n));
        }
        return full() + 1 - reached.size();
    }

    int duel(int n, int what) {
        if (!in(n, 0, 24) || !in(what, 0, 1)) {
            return -1;
        }
        int who = -2;
        int fewest = 99;
        for (int x = 0; x < many(); x++) {
            int most = bits(rowAfter(w.row() ^ 1 << x, n));
            for (int y = 0; y < many(); y++) {
                most = Math.max(most, bits(rowAfter(w.row() ^ 1 << x ^ 1 << y, n)));
            }
            if (most < fewest) {
                fewest = most;
                who = x;
            }
        }
        return who == -2 ? -2 : what == 0 ? fewest : who;
    }

    int sentry(int n, int what) {
        if (!in(n, 0, 24) || !in(what, 0, 1)) {
            return -1;
        }
        int who = -2;
        int most = -1;
        for (int s = 0; s < many(); s++) {
            int left = many() == 1 ? bits(rowAfter(w.row(), n)) : 99;
            for (int x = 0; x < many(); x++) {
                if (x != s) {
                    left = Math.min(left, bits(rowAfter(w.row() ^ 1 << x, n)));
                }
            }
            if (left > most) {
                most = left;
                who = s;
            }
        }
        return who == -2 ? -2 : what == 0 ? who : most;
    }

    int parting(int what) {
        if (many() == 0 || !in(what, 0, 1)) {
            return -100000;
        }
        int best = 0;
        for (int b = 0; b < many(); b++) {
            if (w.beds.get(b).parting > w.beds.get(best).parting) {
                best = b;
            }
        }
        return what == 0 ? best : w.beds.get(best).parting;
    }

    private static int shown(World v) {
        int all = 0;
        for (int b = 0; b < v.beds.size(); b++) {
            all += v.beds.get(b).parting > 0 ? 1 << b : 0;
        }
        return all;
    }

    int shows(int n) {
        return in(n, 0, 48) ? bits(shown(on(w, n))) : -1;
    }

    int still(int what) {
        if (!in(what, 0, 1)) {
            return -1;
        }
        int howMany = 0;
        int nearest = -2;
        for (int r = 0; r <= full(); r++) {
            if (rowAfter(r, 1) == r) {
                howMany++;
                if (nearest < 0 || bits(r ^ w.row()) < bits(nearest ^ w.row())) {
                    nearest = r;
                }
            }
        }
        return what == 0 ? howMany : nearest;
    }

    int again() {
        World v = w;
        for (int n = 1; n <= 240; n++) {
            v = on(v, 1);
            if (v.row() == w.row()) {
                return n;
            }
        }
        return -2;
    }

    int worst(int n, int what) {
        if (!in(n, 0, 24) || !in(what, 0, 1)) {
            return -1;
        }
        int who = -2;
        int fewest = 99;
        for (int x = 0; x < many(); x++) {
            int left = bits(rowAfter(w.row() ^ 1 << x, n));
            if (left < fewest) {
                fewest = left;
                who = x;
            }
        }
        return who == -2 ? -2 : what == 0 ? who : fewest;
    }

    private int leftThrough(World v, int n) {
        int all = 0;
        for (int i = 1; i <= n; i++) {
            all += bits(on(v, i).row());
        }
        return all;
    }

    int changeBest(int n, int what) {
        if (!in(n, 1, 24) || !in(what, 0, 1)) {
            return -1;
        }
        int most = leftThrough(w, n);
        int pair = -2;
        for (int x = 0; x < many(); x++) {
            for (int y = x + 1; y < many(); y++) {
                World v = w.copy();
                java.util.Collections.swap(v.beds, x, y);
                int all = leftThrough(v, n);
                if (all > most) {
                    most = all;
                    pair = 10 * x + y;
                }
            }
        }
        return pair == -2 ? -2 : what == 0 ? pair : most;
    }

    int leave(int b) {
        if (!bed(b)) {
            return -1;
        }
        World v = w;
        for (int n = 1; n <= 240; n++) {
            v = on(v, 1);
            if (v.beds.get(b).parting > 0 != w.beds.get(b).parting > 0) {
                return n;
            }
        }
        return -2;
    }

    int then(int b, int n, int what) {
        if (!in(n, 0, 48) || !in(what, 0, 2) || what != 2 && !bed(b)) {
            return -100000;
        }
        World v = coldOn(n, seed);
        return what == 2 ? bits(v.row()) : what == 1 ? v.beds.get(b).parting : v.beds.get(b).left ? 1 : 0;
    }

    int year(int n, int s) {
        if (!in(n, 0, 48) || !in(s, 1, 20)) {
            return -1;
        }
        int all = 0;
        for (int i = seed; i < seed + s; i++) {
            all += coldOn(n, i).row() == full() ? 1 : 0;
        }
        return all;
    }

    int tell(int b, int n, boolean left) {
        if (!bed(b) || !in(n, 0, 24) || told.size() == 20) {
            return -1;
        }
        told.add(new int[] {b, n, left ? 1 : 0});
        return told.size() - 1;
    }

    int forget() {
        int n = told.size();
        told.clear();
        return n;
    }

    private List<Integer> known(int k) {
        List<Integer> all = new ArrayList<>();
        for (int r = 0; r <= full(); r++) {
            boolean so = true;
            for (int[] t : told.subList(0, k)) {
                so = so && (rowAfter(r, t[1]) >> t[0] & 1) == t[2];
            }
            if (so) {
                all.add(r);
            }
        }
        return all;
    }

    int lay(int k, int what) {
        if (!in(k, 0, told.size()) || !in(what, 0, 3)) {
            return -1;
        }
        List<Integer> all = known(k);
        if (what == 0) {
            return all.size();
        }
        if (all.isEmpty()) {
            return -2;
        }
        int and = full();
        int or = 0;
        for (int r : all) {
            and &= r;
            or |= r;
        }
        return what == 1 ? all.get(0) : what == 2 ? and : full() - or;
    }

    int look(int k, int n) {
        if (!in(k, 0, told.size()) || !in(n, 0, 24)) {
            return -1;
        }
        List<Integer> all = known(k);
        int best = -2;
        int fewest = all.size() + 1;
        for (int b = 0; b < many() && !all.isEmpty(); b++) {
            int left = 0;
            for (int r : all) {
                left += rowAfter(r, n) >> b & 1;
            }
            int worst = Math.max(left, all.size() - left);
            if (worst < fewest) {
                fewest = worst;
                best = b;
            }
        }
        return best;
    }

    boolean hold(int slot) {
        if (!in(slot, 0, 2)) {
            return false;
        }
        slots[slot] = w.copy();
        return true;
    }

    boolean restore(int slot) {
        if (!in(slot, 0, 2) || slots[slot] == null) {
            return false;
        }
        w = slots[slot].copy();
        past.clear();
        return true;
    }

    int count(int what) {
        switch (what) {
            case 0: return many();
            case 1: return w.hour;
            case 2: return w.hour % 24;
            case 3: return w.row();
            case 4: return bits(w.row());
            case 5: return shown(w);
            case 6: return rowAfter(w.row(), 1);
            case 7: return tape.length();
            case 8: return past.size();
            case 9: return told.size();
            case 10: return (slots[0] == null ? 0 : 1) + (slots[1] == null ? 0 : 1) + (slots[2] == null ? 0 : 1);
            case 11: return w.chilled;
            case 12: return cost(w, full() ^ w.row());
            case 13: return ring ? 1 : 0;
            case 14: return w.beds.stream().mapToInt(m -> m.turned).sum();
            case 15: return w.hour - begins;
            case 16: return w.beds.stream().mapToInt(m -> m.habit).sum();
            default: return -1;
        }
    }
}
