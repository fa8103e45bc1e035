import java.util.Arrays;

/** A regiment parted on the side it sleeps on; DOC.md tells what each call promises. */
public final class PartedSide {
    public static final int NONE = -1;

    private static final int NO_SUCH = -100000;
    private static final int NOT_SO = -2;
    private static final int NOBODY = -3;

    private static final int MOST_BYTES = 2000;
    private static final int FED_BYTES = 20;
    private static final int MOST_TOKENS = 400;
    private static final int MOST_LETTERS = 8;
    private static final int MOST_DIGITS = 4;
    private static final int MOST_IFS = 4;
    private static final int MOST_NESTED = 6;
    private static final int MOST_BEDS = 9;
    private static final int MOST_COLDS = 9;
    private static final int MOST_UNDONE = 40;
    private static final int MOST_TOLD = 20;
    private static final int SLOTS = 3;
    private static final int DAY = 24;
    private static final int FAR = 48;
    private static final int LONGEST = 240;
    private static final int MOST_SEEDS = 20;
    private static final int WIDEST_PARTING = 9999;

    private static final int SYNTAX = 1;
    private static final int ROOM = 2;
    private static final int TWICE = 3;
    private static final int WRONG = 5;
    private static final int BEDS = 6;

    // A token that is a sign has the sign's own byte as its kind; the words stand above all bytes.
    private static final String SIGNS = ";=+-*/<()";
    private static final int BROKEN = 0;
    private static final int NAME = 1;
    private static final int INT = 2;
    private static final int END = 3;
    private static final int END_SIGN = -1;
    private static final String WORDS =
        "sleeper cold lies parts chills costs ring begins seed if then else own before behind habit draft hour bed many parted ";
    private static final int WORD_COUNT = 21;
    private static final int FIRST_WORD = 256;
    private static final int SLEEPER = 256;
    private static final int COLD = 257;
    private static final int LIES = 258;
    private static final int PARTS = 259;
    private static final int CHILLS = 260;
    private static final int COSTS = 261;
    private static final int RING = 262;
    private static final int BEGINS = 263;
    private static final int SEED = 264;
    private static final int IF = 265;
    private static final int THEN = 266;
    private static final int ELSE = 267;
    private static final int FIRST_VAR = 268;
    private static final int LAST_VAR = 276;

    private static final int VARS = 9;
    private static final int OWN = 0;
    private static final int BEFORE = 1;
    private static final int BEHIND = 2;
    private static final int HABIT = 3;
    private static final int DRAFT = 4;
    private static final int HOUR = 5;
    private static final int BED = 6;
    private static final int MANY = 7;
    private static final int PARTED = 8;
    private static final int CASES = 8;

    private final Tape tape = new Tape();
    private final Plan draft = new Plan();
    private final Plan plan = new Plan();
    private final Scribe scribe = new Scribe(tape, draft);
    private final Night now = new Night();
    private final Memory memory = new Memory();
    private final Sightings sightings = new Sightings();
    private final Dream dream = new Dream(plan, now);
    private final Turns turns = new Turns(plan, now, dream);
    private final Whistles whistles = new Whistles(plan, now, dream);
    private final Rows rows = new Rows(plan, now, dream, sightings);
    private int faultPlace = NONE;

    public PartedSide() {
        now.lieDownBy(plan);
    }

    public int feed(int a, int b, int c, int d, int e) {
        if (tape.length + FED_BYTES > MOST_BYTES) {
            return NONE;
        }
        tape.append(a);
        tape.append(b);
        tape.append(c);
        tape.append(d);
        tape.append(e);
        return tape.length;
    }

    public int back(int n) {
        if (n < 0 || n > tape.length) {
            return NONE;
        }
        tape.length -= n;
        return tape.length;
    }

    public int read() {
        int fault = scribe.write();
        faultPlace = fault == 0 ? NONE : scribe.faultPlace;
        tape.length = 0;
        if (fault == 0) {
            plan.copyFrom(draft);
            now.lieDownBy(plan);
            memory.forgetPast();
            memory.emptySlots();
            sightings.clear();
            dream.forgetRules();
        }
        return fault;
    }

    public int place() {
        return faultPlace;
    }

    public int sleeper(int bed, int what) {
        if (!plan.hasBed(bed)) {
            return NO_SUCH;
        }
        plan.face(now, bed);
        switch (what) {
            case 0: return now.row >> bed & 1;
            case 1: return now.habits[bed];
            case 2: return now.partings[bed];
            case 3: return plan.colds[bed];
            case 4: return now.names[bed];
            case 5: return plan.liesLeft() ? 1 : 0;
            case 6: return plan.partingGrowth();
            case 7: return plan.chillChance();
            case 8: return plan.turningCost();
            case 9: return now.turnings[bed];
            default: return NO_SUCH;
        }
    }

    public boolean turn(int bed) {
        if (!plan.hasBed(bed)) {
            return false;
        }
        remember();
        now.row ^= 1 << bed;
        now.turnings[bed]++;
        return true;
    }

    public boolean whistle() {
        if (plan.many == 0) {
            return false;
        }
        remember();
        now.row ^= plan.allLeft();
        return true;
    }

    public boolean change(int bed, int other) {
        if (!plan.hasBed(bed) || !plan.hasBed(other) || bed == other) {
            return false;
        }
        remember();
        now.swap(bed, other);
        return true;
    }

    public int hours(int n) {
        if (!within(n, 0, FAR)) {
            return NONE;
        }
        if (n > 0) {
            remember();
        }
        for (int i = 0; i < n; i++) {
            plan.passColdHour(now, plan.seed);
        }
        return now.hour;
    }

    public boolean undo() {
        if (!memory.takeLast(now)) {
            return false;
        }
        dream.forgetRules();
        return true;
    }

    public int after(int row, int n) {
        if (!plan.hasRow(row) || !within(n, 0, FAR)) {
            return NONE;
        }
        return dream.rowAfter(row, n);
    }

    public int turned(int n, int what) {
        if (!within(n, 0, DAY) || !isPairOfAnswers(what)) {
            return NONE;
        }
        if (!turns.findCheapest(plan.allLeft(), n)) {
            return NOT_SO;
        }
        return what == 0 ? turns.leastCost : turns.leastSet;
    }

    public int soonest(int what) {
        if (!isPairOfAnswers(what)) {
            return NONE;
        }
        for (int n = 0; n <= DAY; n++) {
            int who = turns.oneEnough(n);
            if (who != NOT_SO) {
                return what == 0 ? n : who;
            }
        }
        return NOT_SO;
    }

    public int spread(int bed, int n) {
        if (!plan.hasBed(bed) || !within(n, 0, DAY)) {
            return NONE;
        }
        return dream.rowAfter(now.row, n) ^ dream.rowAfter(now.row ^ 1 << bed, n);
    }

    public int leads(int row, int n, int what) {
        if (!plan.hasRow(row) || !within(n, 0, DAY) || !isPairOfAnswers(what)) {
            return NONE;
        }
        return what == 0 ? rows.leadingTo(row, n) : rows.leastLeadingTo(row, n);
    }

    public int turnTo(int row, int n) {
        if (!plan.hasRow(row) || !within(n, 0, DAY)) {
            return NONE;
        }
        return turns.findCheapest(row, n) ? turns.leastCost : NOT_SO;
    }

    public int round(int n, int what) {
        if (!within(n, 1, FAR) || !isPairOfAnswers(what)) {
            return NONE;
        }
        turns.goRound(n);
        return what == 0 ? turns.roundTurned : turns.roundCost;
    }

    public int rule(int bed) {
        if (!plan.hasBed(bed)) {
            return NONE;
        }
        return plan.casesWithLeft(now, bed, now.hourOfDay());
    }

    public int coldest(int what) {
        if (!isPairOfAnswers(what)) {
            return NONE;
        }
        int most = NONE;
        int coldestHour = 0;
        dream.lieAs(now.row);
        for (int hour = 0; hour < DAY; hour++) {
            int chills = plan.chillsOfAll(dream.night);
            if (chills > most) {
                most = chills;
                coldestHour = hour;
            }
            plan.passHour(dream.night);
        }
        return what == 0 ? coldestHour : most;
    }

    public int run(int what) {
        if (!isPairOfAnswers(what)) {
            return NONE;
        }
        int longest = 0;
        int first = NOT_SO;
        for (int bed = 0; bed < plan.many; bed++) {
            int length = plan.runFrom(now.row, bed);
            if (length > longest) {
                longest = length;
                first = bed;
            }
        }
        return what == 0 ? longest : first;
    }

    public int unlike() {
        return plan.unlikePairs(now.row);
    }

    public int eden(int n) {
        if (!within(n, 1, DAY)) {
            return NONE;
        }
        return rows.neverReached(n);
    }

    public int duel(int n, int what) {
        if (!within(n, 0, DAY) || !isPairOfAnswers(what)) {
            return NONE;
        }
        whistles.fightDuel(n);
        return whistles.answer(what == 0);
    }

    public int sentry(int n, int what) {
        if (!within(n, 0, DAY) || !isPairOfAnswers(what)) {
            return NONE;
        }
        whistles.postSentry(n);
        return whistles.answer(what == 1);
    }

    public int parting(int what) {
        if (plan.many == 0 || !isPairOfAnswers(what)) {
            return NO_SUCH;
        }
        int greatest = 0;
        for (int bed = 1; bed < plan.many; bed++) {
            if (now.partings[bed] > now.partings[greatest]) {
                greatest = bed;
            }
        }
        return what == 0 ? greatest : now.partings[greatest];
    }

    public int shows(int n) {
        if (!within(n, 0, FAR)) {
            return NONE;
        }
        dream.lieAs(now.row);
        for (int i = 0; i < n; i++) {
            plan.passHour(dream.night);
        }
        return Integer.bitCount(plan.shownPartings(dream.night));
    }

    public int still(int what) {
        if (!isPairOfAnswers(what)) {
            return NONE;
        }
        return what == 0 ? rows.stayingRows() : rows.nearestStaying();
    }

    public int again() {
        dream.lieAs(now.row);
        for (int n = 1; n <= LONGEST; n++) {
            dream.passRowHour();
            if (dream.night.row == now.row) {
                return n;
            }
        }
        return NOT_SO;
    }

    public int worst(int n, int what) {
        if (!within(n, 0, DAY) || !isPairOfAnswers(what)) {
            return NONE;
        }
        whistles.findWorst(n);
        return whistles.answer(what == 1);
    }

    public int changeBest(int n, int what) {
        if (!within(n, 1, DAY) || !isPairOfAnswers(what)) {
            return NONE;
        }
        whistles.findBestChange(n);
        return whistles.answer(what == 1);
    }

    public int leave(int bed) {
        if (!plan.hasBed(bed)) {
            return NONE;
        }
        boolean shown = now.partings[bed] > 0;
        dream.lieAs(now.row);
        for (int n = 1; n <= LONGEST; n++) {
            plan.passHour(dream.night);
            if (dream.night.partings[bed] > 0 != shown) {
                return n;
            }
        }
        return NOT_SO;
    }

    public int then(int bed, int n, int what) {
        if (!within(n, 0, FAR) || !within(what, 0, 2) || what < 2 && !plan.hasBed(bed)) {
            return NO_SUCH;
        }
        dream.sleepThrough(n, plan.seed);
        switch (what) {
            case 0: return dream.night.row >> bed & 1;
            case 1: return dream.night.partings[bed];
            default: return Integer.bitCount(dream.night.row);
        }
    }

    public int year(int n, int s) {
        if (!within(n, 0, FAR) || !within(s, 1, MOST_SEEDS)) {
            return NONE;
        }
        int nights = 0;
        for (int i = 0; i < s; i++) {
            dream.sleepThrough(n, plan.seed + i);
            if (dream.night.row == plan.allLeft()) {
                nights++;
            }
        }
        return nights;
    }

    public int tell(int bed, int n, boolean left) {
        if (!plan.hasBed(bed) || !within(n, 0, DAY)) {
            return NONE;
        }
        return sightings.add(bed, n, left);
    }

    public int forget() {
        int forgotten = sightings.size;
        sightings.clear();
        return forgotten;
    }

    public int lay(int k, int what) {
        if (!within(k, 0, sightings.size) || !within(what, 0, 3)) {
            return NONE;
        }
        rows.gatherKnown(k);
        if (what == 0) {
            return rows.knownRows;
        }
        if (rows.knownRows == 0) {
            return NOT_SO;
        }
        switch (what) {
            case 1: return rows.leastKnown;
            case 2: return rows.leftInAll;
            default: return rows.rightInAll;
        }
    }

    public int look(int k, int n) {
        if (!within(k, 0, sightings.size) || !within(n, 0, DAY)) {
            return NONE;
        }
        rows.gatherKnown(k);
        return rows.bestLook(n);
    }

    public boolean hold(int slot) {
        return memory.keep(slot, now);
    }

    public boolean restore(int slot) {
        if (!memory.giveBack(slot, now)) {
            return false;
        }
        memory.forgetPast();
        dream.forgetRules();
        return true;
    }

    public int count(int what) {
        switch (what) {
            case 0: return plan.many;
            case 1: return now.hour;
            case 2: return now.hourOfDay();
            case 3: return now.row;
            case 4: return Integer.bitCount(now.row);
            case 5: return plan.shownPartings(now);
            case 6: return dream.rowAfter(now.row, 1);
            case 7: return tape.length;
            case 8: return memory.size;
            case 9: return sightings.size;
            case 10: return memory.fullSlots();
            case 11: return now.chilled;
            case 12: return plan.costOfTurning(now, plan.allLeft() & ~now.row);
            case 13: return plan.ring ? 1 : 0;
            case 14: return sum(now.turnings, plan.many);
            case 15: return now.hour - plan.begins;
            case 16: return sum(now.habits, plan.many);
            default: return NONE;
        }
    }

    /** Ahead of each thing done: what it does can be undone, and rules thought of before it may no longer hold. */
    private void remember() {
        memory.add(now);
        dream.forgetRules();
    }

    private static boolean isPairOfAnswers(int what) {
        return what == 0 || what == 1;
    }

    private static boolean within(int value, int least, int most) {
        return value >= least && value <= most;
    }

    private static int heldTo(int value, int least, int most) {
        if (value < least) {
            return least;
        }
        return value > most ? most : value;
    }

    private static int sum(int[] values, int many) {
        int all = 0;
        for (int i = 0; i < many && i < values.length; i++) {
            all += values[i];
        }
        return all;
    }

    /** The bytes that were fed and not read yet, and the tokens that stand on them. */
    private static final class Tape {
        private final byte[] bytes = new byte[MOST_BYTES];
        private final int[] kinds = new int[MOST_TOKENS + 1];
        private final int[] starts = new int[MOST_TOKENS + 1];
        // What an int counts, or the letters of a name packed.
        private final long[] values = new long[MOST_TOKENS + 1];
        private final long[] words = new long[WORD_COUNT];
        private int length;
        private int at;

        Tape() {
            int word = 0;
            for (int i = 0; i < WORDS.length() && word < WORD_COUNT; i++) {
                if (WORDS.charAt(i) == ' ') {
                    word++;
                } else {
                    words[word] = withLetter(words[word], WORDS.charAt(i));
                }
            }
        }

        void append(int four) {
            for (int shift = 24; shift >= 0 && length < MOST_BYTES; shift -= 8) {
                bytes[length] = (byte) (four >>> shift);
                length++;
            }
        }

        /** Finds the tokens up to the first that is one too many, or up to what is none. */
        void scan() {
            at = 0;
            for (int token = 0; token <= MOST_TOKENS; token++) {
                scanToken(token);
                if (kinds[token] == END || kinds[token] == BROKEN) {
                    break;
                }
            }
        }

        private void scanToken(int token) {
            while (at < length && isBlank(signAt())) {
                at++;
            }
            starts[token] = at;
            int sign = signAt();
            if (sign == END_SIGN) {
                kinds[token] = END;
            } else if (isLetter(sign)) {
                scanLetters(token);
            } else if (isDigit(sign)) {
                scanDigits(token);
            } else {
                at++;
                kinds[token] = SIGNS.indexOf((char) sign) >= 0 ? sign : BROKEN;
            }
        }

        private int signAt() {
            return at < length && at < MOST_BYTES ? bytes[at] & 255 : END_SIGN;
        }

        private void scanLetters(int token) {
            long letters = 0;
            while (at < length && isLetter(signAt())) {
                letters = withLetter(letters, signAt());
                at++;
            }
            values[token] = letters;
            kinds[token] = at - starts[token] > MOST_LETTERS ? BROKEN : kindOfLetters(letters);
        }

        private int kindOfLetters(long letters) {
            for (int i = 0; i < WORD_COUNT; i++) {
                if (words[i] == letters) {
                    return FIRST_WORD + i;
                }
            }
            return NAME;
        }

        private void scanDigits(int token) {
            long number = 0;
            while (at < length && isDigit(signAt())) {
                number = 10 * number + signAt() - '0';
                at++;
            }
            values[token] = number;
            kinds[token] = at - starts[token] > MOST_DIGITS ? BROKEN : INT;
        }

        private static long withLetter(long letters, int letter) {
            return 32 * letters + letter - 'a' + 1;
        }

        private static boolean isBlank(int sign) {
            return sign == 9 || sign == 10 || sign == 13 || sign == 32;
        }

        private static boolean isLetter(int sign) {
            return sign >= 'a' && sign <= 'z';
        }

        private static boolean isDigit(int sign) {
            return sign >= '0' && sign <= '9';
        }
    }

    /** One law as postfix steps, each then of an if skipped if the if does not hold. */
    private static final class Law {
        // An int stands for itself, LOOK less its number for a var, the others for what is done with the two on top.
        private static final int LOOK = -1;
        private static final int PLUS = -10;
        private static final int MINUS = -11;
        private static final int TIMES = -12;
        private static final int DIVIDED = -13;
        // The step behind this one tells how many are skipped if the one is not less than the other.
        private static final int LESS = -14;
        private static final int DONE = -15;
        // Within each bracket a sum and a product may wait for their second one.
        private static final int MOST_STACKED = 2 * (MOST_NESTED + 1) + 2;

        private final int[] steps = new int[MOST_TOKENS];
        private final int[] stack = new int[MOST_STACKED];
        private int length;
        private int skipAt;
        private boolean looksAtParting;

        void clear() {
            length = 0;
            looksAtParting = false;
        }

        void setTo(int step) {
            clear();
            add(step);
            add(DONE);
        }

        void add(int step) {
            if (length < MOST_TOKENS) {
                steps[length] = step;
                length++;
            }
            looksAtParting |= step == LOOK - PARTED;
        }

        void addSign(int sign) {
            switch (sign) {
                case '+': add(PLUS); break;
                case '-': add(MINUS); break;
                case '*': add(TIMES); break;
                default: add(DIVIDED); break;
            }
        }

        void beginThen() {
            add(LESS);
            skipAt = length;
            add(0);
        }

        void endThen() {
            add(DONE);
            if (skipAt < length) {
                steps[skipAt] = length - skipAt - 1;
            }
        }

        void copyFrom(Law other) {
            System.arraycopy(other.steps, 0, steps, 0, MOST_TOKENS);
            length = other.length;
            looksAtParting = other.looksAtParting;
        }

        int value(int[] vars) {
            int top = 0;
            for (int at = 0; at < length; at++) {
                int step = steps[at];
                if (step > PLUS) {
                    if (top >= MOST_STACKED) {
                        return 0;
                    }
                    stack[top] = step >= 0 ? step : vars[LOOK - step];
                    top++;
                    continue;
                }
                if (step == DONE || top < 2) {
                    return top == 1 ? stack[0] : 0;
                }
                top--;
                int left = stack[top - 1];
                int right = stack[top];
                if (step == DIVIDED && right == 0) {
                    return 0;
                }
                switch (step) {
                    case PLUS: stack[top - 1] = left + right; break;
                    case MINUS: stack[top - 1] = left - right; break;
                    case TIMES: stack[top - 1] = left * right; break;
                    case DIVIDED: stack[top - 1] = left / right; break;
                    default:
                        top = 0;
                        at += left < right || at + 1 >= length ? 1 : 1 + steps[at + 1];
                        break;
                }
            }
            return 0;
        }
    }

    /** What a text tells: who sleeps where at first, how cold it is, and the laws. */
    private static final class Plan {
        private final int[] habits = new int[MOST_BEDS];
        private final int[] colds = new int[MOST_BEDS];
        private final Law lies = new Law();
        private final Law parts = new Law();
        private final Law chills = new Law();
        private final Law costs = new Law();
        private final int[] vars = new int[VARS];
        private int many;
        private int firstRow;
        private boolean ring;
        private int begins;
        private int seed;

        Plan() {
            clear();
        }

        void clear() {
            Arrays.fill(colds, 0);
            lies.setTo(Law.LOOK - OWN);
            parts.setTo(1);
            chills.setTo(0);
            costs.setTo(1);
            many = 0;
            firstRow = 0;
            ring = false;
            begins = 0;
            seed = 0;
        }

        void copyFrom(Plan other) {
            System.arraycopy(other.habits, 0, habits, 0, MOST_BEDS);
            System.arraycopy(other.colds, 0, colds, 0, MOST_BEDS);
            lies.copyFrom(other.lies);
            parts.copyFrom(other.parts);
            chills.copyFrom(other.chills);
            costs.copyFrom(other.costs);
            many = other.many;
            firstRow = other.firstRow;
            ring = other.ring;
            begins = other.begins;
            seed = other.seed;
        }

        void addSleeper(boolean left, int habit) {
            if (many < MOST_BEDS) {
                habits[many] = habit;
                firstRow |= left ? 1 << many : 0;
                many++;
            }
        }

        void setCold(int bed, int cold) {
            if (within(bed, 0, MOST_BEDS - 1)) {
                colds[bed] = cold;
            }
        }

        Law lawOf(int word) {
            switch (word) {
                case LIES: return lies;
                case PARTS: return parts;
                case CHILLS: return chills;
                default: return costs;
            }
        }

        boolean hasBed(int bed) {
            return within(bed, 0, many - 1);
        }

        boolean hasRow(int row) {
            return within(row, 0, allLeft());
        }

        int allLeft() {
            return (1 << many) - 1;
        }

        /** By beds: how who lies in the bed one less does; nobody asks for the bit past the last bed. */
        int rowBefore(int row) {
            int wrapped = ring ? row >> many - 1 & 1 : 0;
            return row << 1 | wrapped;
        }

        /** By beds: how who lies in the bed one more does. */
        int rowBehind(int row) {
            int wrapped = ring ? (row & 1) << many - 1 : 0;
            return row >> 1 | wrapped;
        }

        /** The laws asked next are asked of who lies in this bed. */
        void face(Night night, int bed) {
            faceAt(night, bed, night.hourOfDay());
            vars[OWN] = night.row >> bed & 1;
            vars[BEFORE] = rowBefore(night.row) >> bed & 1;
            vars[BEHIND] = rowBehind(night.row) >> bed & 1;
        }

        /** All but how they and those beside them lie. */
        private void faceAt(Night night, int bed, int hourOfDay) {
            vars[HABIT] = night.habits[bed];
            vars[DRAFT] = colds[bed];
            vars[HOUR] = hourOfDay;
            vars[BED] = bed;
            vars[MANY] = many;
            vars[PARTED] = night.partings[bed];
        }

        boolean liesLeft() {
            return lies.value(vars) > 0;
        }

        int partingGrowth() {
            return heldTo(parts.value(vars), 0, 99);
        }

        int chillChance() {
            return heldTo(chills.value(vars), 0, 100);
        }

        int turningCost() {
            return heldTo(costs.value(vars), 0, 99);
        }

        int casesWithLeft(Night night, int bed, int hourOfDay) {
            faceAt(night, bed, hourOfDay);
            int cases = 0;
            for (int which = 0; which < CASES; which++) {
                vars[OWN] = which & 1;
                vars[BEFORE] = which >> 1 & 1;
                vars[BEHIND] = which >> 2 & 1;
                cases |= lies.value(vars) > 0 ? 1 << which : 0;
            }
            return cases;
        }

        void passHour(Night night) {
            int next = 0;
            for (int bed = 0; bed < many; bed++) {
                face(night, bed);
                next |= liesLeft() ? 1 << bed : 0;
                int growth = vars[OWN] == 1 ? partingGrowth() : -partingGrowth();
                // A law looks at nobody else's parting, so this one may grow while the others are still asked.
                night.partings[bed] = heldTo(night.partings[bed] + growth, -WIDEST_PARTING, WIDEST_PARTING);
            }
            night.row = next;
            night.hour++;
        }

        void passColdHour(Night night, int bySeed) {
            int chilled = 0;
            for (int bed = 0; bed < many; bed++) {
                face(night, bed);
                boolean isChilled = lotOfHundred(bySeed, 16 * night.hour + bed) < chillChance();
                chilled |= isChilled ? 1 << bed : 0;
            }
            passHour(night);
            night.row ^= chilled;
            night.chilled += Integer.bitCount(chilled);
        }

        private static int lotOfHundred(int bySeed, int which) {
            int h = stirred(stirred(bySeed, 139), which);
            return (h >>> 1) % 100;
        }

        private static int stirred(int h, int with) {
            int mixed = (h ^ with) * 1103515245 + 12345;
            return mixed ^ mixed >>> 15;
        }

        int chillsOfAll(Night night) {
            int all = 0;
            for (int bed = 0; bed < many; bed++) {
                face(night, bed);
                all += chillChance();
            }
            return all;
        }

        int costOfTurning(Night night, int set) {
            int cost = 0;
            for (int bed = 0; bed < many; bed++) {
                if ((set >> bed & 1) == 1) {
                    face(night, bed);
                    cost += turningCost();
                }
            }
            return cost;
        }

        int shownPartings(Night night) {
            int shown = 0;
            for (int bed = 0; bed < many; bed++) {
                shown |= night.partings[bed] > 0 ? 1 << bed : 0;
            }
            return shown;
        }

        /** How many lie alike from this bed on. */
        int runFrom(int row, int first) {
            int side = row >> first & 1;
            int length = 1;
            for (int bed = first + 1; length < many && (ring || bed < many); bed++) {
                if ((row >> (bed < many ? bed : bed - many) & 1) != side) {
                    break;
                }
                length++;
            }
            return length;
        }

        int unlikePairs(int row) {
            // Two beds in a ring stand beside each other twice, and are one pair all the same.
            int pairs = ring && many > 2 ? allLeft() : allLeft() >> 1;
            return Integer.bitCount((row ^ rowBehind(row)) & pairs);
        }
    }

    /** How all lie at one hour, and what came of the hours before it. */
    private static final class Night {
        private final int[] names = new int[MOST_BEDS];
        private final int[] habits = new int[MOST_BEDS];
        private final int[] partings = new int[MOST_BEDS];
        private final int[] turnings = new int[MOST_BEDS];
        private int row;
        private int hour;
        private int chilled;

        void lieDownBy(Plan plan) {
            for (int bed = 0; bed < MOST_BEDS; bed++) {
                names[bed] = bed;
                habits[bed] = plan.habits[bed];
                partings[bed] = 0;
                turnings[bed] = 0;
            }
            row = plan.firstRow;
            hour = plan.begins;
            chilled = 0;
        }

        void copyFrom(Night other) {
            System.arraycopy(other.names, 0, names, 0, MOST_BEDS);
            System.arraycopy(other.habits, 0, habits, 0, MOST_BEDS);
            System.arraycopy(other.partings, 0, partings, 0, MOST_BEDS);
            System.arraycopy(other.turnings, 0, turnings, 0, MOST_BEDS);
            row = other.row;
            hour = other.hour;
            chilled = other.chilled;
        }

        int hourOfDay() {
            return hour % DAY;
        }

        void swap(int bed, int other) {
            swapIn(names, bed, other);
            swapIn(habits, bed, other);
            swapIn(partings, bed, other);
            swapIn(turnings, bed, other);
            if ((row >> bed & 1) != (row >> other & 1)) {
                row ^= 1 << bed | 1 << other;
            }
        }

        private static void swapIn(int[] values, int bed, int other) {
            int kept = values[bed];
            values[bed] = values[other];
            values[other] = kept;
        }
    }

    /** Writes the tape's text into a draft of a plan, as long as no fault is found. */
    private static final class Scribe {
        private final Tape tape;
        private final Plan draft;
        private final long[] names = new long[MOST_BEDS];
        private Law law;
        private int at;
        private int kind;
        private int fault;
        private int faultPlace;
        private int laterFault;
        private int laterPlace;
        private int colds;
        private int farthestCold;

        Scribe(Tape tape, Plan draft) {
            this.tape = tape;
            this.draft = draft;
            law = draft.lies;
        }

        /** The number of the text's fault, 0 without; the draft is a whole plan only without. */
        int write() {
            begin();
            for (int tells = 0; tells <= MOST_TOKENS && kind != END; tells++) {
                if (!takeTell()) {
                    return fault;
                }
            }
            if (farthestCold >= draft.many) {
                noteLater(BEDS, tape.length);
            }
            fault = laterFault;
            faultPlace = laterPlace;
            return fault;
        }

        private void begin() {
            draft.clear();
            tape.scan();
            at = 0;
            kind = tape.kinds[0];
            laterFault = 0;
            laterPlace = NONE;
            colds = 0;
            farthestCold = NONE;
        }

        private boolean takeTell() {
            switch (kind) {
                case SLEEPER: return takeSleeper();
                case COLD: return takeCold();
                case LIES:
                case PARTS:
                case CHILLS:
                case COSTS: return takeLaw(draft.lawOf(kind));
                case RING: return takeRing();
                case BEGINS: return takeBegins();
                case SEED: return takeSeed();
                default: return refuse(SYNTAX);
            }
        }

        private boolean takeSleeper() {
            if (draft.many >= MOST_BEDS) {
                return refuse(ROOM);
            }
            if (!accept() || !takeName() || !takeInt(1) || !takeInt(9)) {
                return false;
            }
            draft.addSleeper(intBehind(2) == 1, intBehind(1));
            return take(';');
        }

        private boolean takeName() {
            if (kind != NAME) {
                return refuse(SYNTAX);
            }
            for (int i = 0; i < draft.many && i < MOST_BEDS; i++) {
                if (names[i] == tape.values[at]) {
                    noteLater(TWICE, tape.starts[at]);
                }
            }
            if (draft.many < MOST_BEDS) {
                names[draft.many] = tape.values[at];
            }
            return accept();
        }

        private boolean takeCold() {
            if (colds >= MOST_COLDS) {
                return refuse(ROOM);
            }
            colds++;
            if (!accept() || !takeInt(MOST_BEDS - 1) || !takeInt(99)) {
                return false;
            }
            draft.setCold(intBehind(2), intBehind(1));
            farthestCold = Math.max(farthestCold, intBehind(2));
            return take(';');
        }

        private boolean takeRing() {
            if (!accept() || !takeInt(1)) {
                return false;
            }
            draft.ring = intBehind(1) == 1;
            return take(';');
        }

        private boolean takeBegins() {
            if (!accept() || !takeInt(DAY - 1)) {
                return false;
            }
            draft.begins = intBehind(1);
            return take(';');
        }

        private boolean takeSeed() {
            if (!accept() || !takeInt(9999)) {
                return false;
            }
            draft.seed = intBehind(1);
            return take(';');
        }

        private boolean takeLaw(Law told) {
            law = told;
            law.clear();
            if (!accept() || !take('=')) {
                return false;
            }
            for (int ifs = 0; ifs <= MOST_IFS && kind == IF; ifs++) {
                if (ifs >= MOST_IFS) {
                    return refuse(ROOM);
                }
                if (!accept() || !takeSum(0) || !take('<') || !takeSum(0) || !take(THEN)) {
                    return false;
                }
                law.beginThen();
                if (!takeSum(0) || !take(ELSE)) {
                    return false;
                }
                law.endThen();
            }
            if (!takeSum(0)) {
                return false;
            }
            law.add(Law.DONE);
            return take(';');
        }

        private boolean takeSum(int nested) {
            if (!takeProduct(nested)) {
                return false;
            }
            for (int i = 0; i <= MOST_TOKENS && (kind == '+' || kind == '-'); i++) {
                int sign = kind;
                if (!accept() || !takeProduct(nested)) {
                    return false;
                }
                law.addSign(sign);
            }
            return true;
        }

        private boolean takeProduct(int nested) {
            if (!takeUnit(nested)) {
                return false;
            }
            for (int i = 0; i <= MOST_TOKENS && (kind == '*' || kind == '/'); i++) {
                int sign = kind;
                if (!accept() || !takeUnit(nested)) {
                    return false;
                }
                law.addSign(sign);
            }
            return true;
        }

        private boolean takeUnit(int nested) {
            if (kind == INT) {
                law.add((int) tape.values[at]);
                return accept();
            }
            if (kind >= FIRST_VAR && kind <= LAST_VAR) {
                law.add(Law.LOOK - (kind - FIRST_VAR));
                return accept();
            }
            if (kind != '(') {
                return refuse(SYNTAX);
            }
            if (nested >= MOST_NESTED) {
                return refuse(ROOM);
            }
            if (!accept() || !takeSum(nested + 1)) {
                return false;
            }
            return kind == ')' ? accept() : refuse(SYNTAX);
        }

        private boolean take(int wanted) {
            return kind == wanted ? accept() : refuse(SYNTAX);
        }

        private boolean takeInt(int most) {
            if (kind != INT) {
                return refuse(SYNTAX);
            }
            if (tape.values[at] > most) {
                noteLater(WRONG, tape.starts[at]);
            }
            return accept();
        }

        /** The int that was taken so many tokens ago. */
        private int intBehind(int tokens) {
            return at >= tokens ? (int) tape.values[at - tokens] : 0;
        }

        /** The token fits here, so that only its being one too many can be held against it. */
        private boolean accept() {
            if (at >= MOST_TOKENS) {
                fault = ROOM;
                faultPlace = tape.starts[at];
                return false;
            }
            at++;
            kind = tape.kinds[at];
            return true;
        }

        private boolean refuse(int why) {
            fault = why;
            faultPlace = tape.starts[at];
            return false;
        }

        /** These faults count only if the whole text has none of the others; they come by their places. */
        private void noteLater(int why, int where) {
            if (laterFault == 0) {
                laterFault = why;
                laterPlace = where;
            }
        }
    }

    /** Nights to go back to: those ahead of the last things done, and those that are held. */
    private static final class Memory {
        private final Night[] past = new Night[MOST_UNDONE];
        private final Night[] slots = new Night[SLOTS];
        private final boolean[] full = new boolean[SLOTS];
        private int next;
        private int size;

        Memory() {
            for (int i = 0; i < MOST_UNDONE; i++) {
                past[i] = new Night();
            }
            for (int i = 0; i < SLOTS; i++) {
                slots[i] = new Night();
            }
        }

        void add(Night night) {
            past[next].copyFrom(night);
            next = (next + 1) % MOST_UNDONE;
            size = Math.min(size + 1, MOST_UNDONE);
        }

        boolean takeLast(Night night) {
            if (size == 0) {
                return false;
            }
            next = (next + MOST_UNDONE - 1) % MOST_UNDONE;
            night.copyFrom(past[next]);
            size--;
            return true;
        }

        void forgetPast() {
            size = 0;
        }

        boolean keep(int slot, Night night) {
            if (!within(slot, 0, SLOTS - 1)) {
                return false;
            }
            slots[slot].copyFrom(night);
            full[slot] = true;
            return true;
        }

        boolean giveBack(int slot, Night night) {
            if (!within(slot, 0, SLOTS - 1) || !full[slot]) {
                return false;
            }
            night.copyFrom(slots[slot]);
            return true;
        }

        int fullSlots() {
            int held = 0;
            for (int i = 0; i < SLOTS; i++) {
                held += full[i] ? 1 : 0;
            }
            return held;
        }

        void emptySlots() {
            for (int i = 0; i < SLOTS; i++) {
                full[i] = false;
            }
        }
    }

    /** What was told of how one lay some hours from now. */
    private static final class Sightings {
        private final int[] beds = new int[MOST_TOLD];
        private final int[] hoursOn = new int[MOST_TOLD];
        private final int[] sides = new int[MOST_TOLD];
        private int size;

        int add(int bed, int n, boolean left) {
            if (size >= MOST_TOLD) {
                return NONE;
            }
            beds[size] = bed;
            hoursOn[size] = n;
            sides[size] = left ? 1 : 0;
            size++;
            return size - 1;
        }

        void clear() {
            size = 0;
        }

        int lastHour(int known) {
            int last = 0;
            for (int i = 0; i < known && i < size; i++) {
                last = Math.max(last, hoursOn[i]);
            }
            return last;
        }

        boolean agree(int known, int n, int row) {
            for (int i = 0; i < known && i < size; i++) {
                if (hoursOn[i] == n && (row >> beds[i] & 1) != sides[i]) {
                    return false;
                }
            }
            return true;
        }
    }

    /** Goes on from now as it would be, while nothing happens. */
    private static final class Dream {
        private static final int UNKNOWN = -1;

        private final Plan plan;
        private final Night now;
        private final Night night = new Night();
        private final int[] rules = new int[DAY * MOST_BEDS];

        Dream(Plan plan, Night now) {
            this.plan = plan;
            this.now = now;
            Arrays.fill(rules, UNKNOWN);
        }

        void forgetRules() {
            Arrays.fill(rules, UNKNOWN);
        }

        void lieAs(int row) {
            night.copyFrom(now);
            night.row = row;
        }

        int rowAfter(int row, int n) {
            lieAs(row);
            for (int i = 0; i < n; i++) {
                passRowHour();
            }
            return night.row;
        }

        void sleepThrough(int n, int seed) {
            lieAs(now.row);
            for (int i = 0; i < n; i++) {
                plan.passColdHour(night, seed);
            }
        }

        /** An hour of which only the row is asked: partings need not grow if nobody lies by them. */
        void passRowHour() {
            if (plan.lies.looksAtParting) {
                plan.passHour(night);
                return;
            }
            int before = plan.rowBefore(night.row);
            int behind = plan.rowBehind(night.row);
            int next = 0;
            for (int bed = 0; bed < plan.many; bed++) {
                int which = night.row >> bed & 1 | (before >> bed & 1) << 1 | (behind >> bed & 1) << 2;
                next |= (ruleOf(bed) >> which & 1) << bed;
            }
            night.row = next;
            night.hour++;
        }

        /** Without partings a rule is the same each day, and asking the law for each row would take long. */
        private int ruleOf(int bed) {
            int at = night.hourOfDay() * MOST_BEDS + bed;
            if (at < 0 || at >= DAY * MOST_BEDS) {
                return 0;
            }
            if (rules[at] == UNKNOWN) {
                rules[at] = plan.casesWithLeft(now, bed, night.hourOfDay());
            }
            return rules[at];
        }
    }

    /** Who is to be turned now, and what it costs. */
    private static final class Turns {
        private final Plan plan;
        private final Night now;
        private final Dream dream;
        private final int[] costs = new int[MOST_BEDS];
        private int leastCost;
        private int leastSet;
        private int roundTurned;
        private int roundCost;

        Turns(Plan plan, Night now, Dream dream) {
            this.plan = plan;
            this.now = now;
            this.dream = dream;
        }

        /** Finds the least set by which all lie as the row behind n hours; false if there is none. */
        boolean findCheapest(int row, int n) {
            for (int bed = 0; bed < plan.many; bed++) {
                costs[bed] = plan.costOfTurning(now, 1 << bed);
            }
            leastSet = NOBODY;
            for (int set = 0; set <= plan.allLeft(); set++) {
                int cost = costOf(set);
                if (isLess(set, cost) && dream.rowAfter(now.row ^ set, n) == row) {
                    leastSet = set;
                    leastCost = cost;
                }
            }
            return leastSet != NOBODY;
        }

        private int costOf(int set) {
            int cost = 0;
            for (int bed = 0; bed < plan.many; bed++) {
                cost += (set >> bed & 1) * costs[bed];
            }
            return cost;
        }

        private boolean isLess(int set, int cost) {
            if (leastSet == NOBODY || cost < leastCost) {
                return true;
            }
            return cost == leastCost && Integer.bitCount(set) < Integer.bitCount(leastSet);
        }

        /** Nobody, or the first one, by whom alone all lie left behind n hours. */
        int oneEnough(int n) {
            if (dream.rowAfter(now.row, n) == plan.allLeft()) {
                return NOBODY;
            }
            for (int bed = 0; bed < plan.many; bed++) {
                if (dream.rowAfter(now.row ^ 1 << bed, n) == plan.allLeft()) {
                    return bed;
                }
            }
            return NOT_SO;
        }

        void goRound(int n) {
            roundTurned = 0;
            roundCost = 0;
            dream.lieAs(now.row);
            for (int i = 0; i < n; i++) {
                int right = plan.allLeft() & ~dream.night.row;
                roundTurned += Integer.bitCount(right);
                roundCost += plan.costOfTurning(dream.night, right);
                dream.night.row = plan.allLeft();
                plan.passHour(dream.night);
            }
        }
    }

    /** Who is whistled over, watched or moved, by how many lie left behind some hours. */
    private static final class Whistles {
        private final Plan plan;
        private final Night now;
        private final Dream dream;
        private final int[] lefts = new int[MOST_BEDS];
        private int who;
        private int howMany;

        Whistles(Plan plan, Night now, Dream dream) {
            this.plan = plan;
            this.now = now;
            this.dream = dream;
        }

        int answer(boolean askedHowMany) {
            if (who == NOBODY) {
                return NOT_SO;
            }
            return askedHowMany ? howMany : who;
        }

        private void settle(int chosen, int left) {
            who = chosen;
            howMany = left;
        }

        void findWorst(int n) {
            whistleEach(n);
            settle(NOBODY, 0);
            for (int bed = 0; bed < plan.many; bed++) {
                if (who == NOBODY || lefts[bed] < howMany) {
                    settle(bed, lefts[bed]);
                }
            }
        }

        private void whistleEach(int n) {
            for (int bed = 0; bed < plan.many; bed++) {
                lefts[bed] = Integer.bitCount(dream.rowAfter(now.row ^ 1 << bed, n));
            }
        }

        void postSentry(int n) {
            whistleEach(n);
            // One alone is safe, and nobody else is there to be whistled over.
            int unharmed = Integer.bitCount(dream.rowAfter(now.row, n));
            settle(NOBODY, 0);
            for (int safe = 0; safe < plan.many; safe++) {
                int left = plan.many == 1 ? unharmed : fewestBut(safe);
                if (who == NOBODY || left > howMany) {
                    settle(safe, left);
                }
            }
        }

        private int fewestBut(int safe) {
            int fewest = MOST_BEDS;
            for (int bed = 0; bed < plan.many; bed++) {
                if (bed != safe) {
                    fewest = Math.min(fewest, lefts[bed]);
                }
            }
            return fewest;
        }

        void fightDuel(int n) {
            settle(NOBODY, 0);
            for (int bed = 0; bed < plan.many; bed++) {
                int left = mostByOneTurn(now.row ^ 1 << bed, n);
                if (who == NOBODY || left < howMany) {
                    settle(bed, left);
                }
            }
        }

        private int mostByOneTurn(int row, int n) {
            int most = Integer.bitCount(dream.rowAfter(row, n));
            for (int bed = 0; bed < plan.many; bed++) {
                most = Math.max(most, Integer.bitCount(dream.rowAfter(row ^ 1 << bed, n)));
            }
            return most;
        }

        void findBestChange(int n) {
            dream.lieAs(now.row);
            settle(NOBODY, leftThrough(n));
            for (int bed = 0; bed < plan.many; bed++) {
                for (int other = bed + 1; other < plan.many; other++) {
                    dream.lieAs(now.row);
                    dream.night.swap(bed, other);
                    int left = leftThrough(n);
                    if (left > howMany) {
                        settle(10 * bed + other, left);
                    }
                }
            }
        }

        /** The rules thought of do not hold for who has changed beds, so the laws themselves are asked. */
        private int leftThrough(int n) {
            int left = 0;
            for (int i = 0; i < n; i++) {
                plan.passHour(dream.night);
                left += Integer.bitCount(dream.night.row);
            }
            return left;
        }
    }

    /** All rows that there can be: what leads where, what stays, what fits with what is known. */
    private static final class Rows {
        private static final int ROWS = 1 << MOST_BEDS;

        private final Plan plan;
        private final Night now;
        private final Dream dream;
        private final Sightings sightings;
        private final boolean[] marked = new boolean[ROWS];
        private final int[] seenLeft = new int[MOST_BEDS];
        private int knownRows;
        private int leastKnown;
        private int leftInAll;
        private int rightInAll;

        Rows(Plan plan, Night now, Dream dream, Sightings sightings) {
            this.plan = plan;
            this.now = now;
            this.dream = dream;
            this.sightings = sightings;
        }

        int leadingTo(int row, int n) {
            int leading = 0;
            for (int first = 0; first <= plan.allLeft(); first++) {
                if (dream.rowAfter(first, n) == row) {
                    leading++;
                }
            }
            return leading;
        }

        int leastLeadingTo(int row, int n) {
            for (int first = 0; first <= plan.allLeft(); first++) {
                if (dream.rowAfter(first, n) == row) {
                    return first;
                }
            }
            return NOT_SO;
        }

        int neverReached(int n) {
            for (int row = 0; row < ROWS; row++) {
                marked[row] = false;
            }
            int left = plan.allLeft() + 1;
            for (int first = 0; first <= plan.allLeft(); first++) {
                int row = dream.rowAfter(first, n);
                if (plan.hasRow(row) && row < ROWS && !marked[row]) {
                    marked[row] = true;
                    left--;
                }
            }
            return left;
        }

        int stayingRows() {
            int staying = 0;
            for (int row = 0; row <= plan.allLeft(); row++) {
                if (dream.rowAfter(row, 1) == row) {
                    staying++;
                }
            }
            return staying;
        }

        int nearestStaying() {
            int nearest = NOT_SO;
            int fewest = MOST_BEDS + 1;
            for (int row = 0; row <= plan.allLeft(); row++) {
                int otherwise = Integer.bitCount(row ^ now.row);
                if (otherwise < fewest && dream.rowAfter(row, 1) == row) {
                    nearest = row;
                    fewest = otherwise;
                }
            }
            return nearest;
        }

        void gatherKnown(int known) {
            knownRows = 0;
            leastKnown = NOT_SO;
            leftInAll = plan.allLeft();
            rightInAll = plan.allLeft();
            int last = sightings.lastHour(known);
            for (int row = 0; row <= plan.allLeft() && row < ROWS; row++) {
                marked[row] = fits(row, known, last);
                if (marked[row]) {
                    leastKnown = knownRows == 0 ? row : leastKnown;
                    knownRows++;
                    leftInAll &= row;
                    rightInAll &= ~row;
                }
            }
        }

        private boolean fits(int row, int known, int last) {
            dream.lieAs(row);
            for (int n = 0; n < last; n++) {
                if (!sightings.agree(known, n, dream.night.row)) {
                    return false;
                }
                dream.passRowHour();
            }
            return sightings.agree(known, last, dream.night.row);
        }

        /** Of the rows that were gathered: who, seen n hours from now, leaves fewest at worst. */
        int bestLook(int n) {
            Arrays.fill(seenLeft, 0);
            for (int row = 0; row <= plan.allLeft() && row < ROWS; row++) {
                if (marked[row]) {
                    addLeft(dream.rowAfter(row, n));
                }
            }
            int best = NOT_SO;
            int fewest = 0;
            for (int bed = 0; bed < plan.many && knownRows > 0; bed++) {
                int atWorst = Math.max(seenLeft[bed], knownRows - seenLeft[bed]);
                if (best == NOT_SO || atWorst < fewest) {
                    best = bed;
                    fewest = atWorst;
                }
            }
            return best;
        }

        private void addLeft(int row) {
            for (int bed = 0; bed < plan.many; bed++) {
                seenLeft[bed] += row >> bed & 1;
            }
        }
    }
}
