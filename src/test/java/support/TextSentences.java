/** The text, its tokens, its form and its faults, and promises 1 to 5: each sentence at its edges. */
final class TextSentences {
    private static final String[] WORDS = {"sleeper", "cold", "lies", "parts", "chills", "costs", "ring", "begins", "seed", "if", "then",
        "else", "own", "before", "behind", "habit", "draft", "hour", "bed", "many", "parted"};
    private static final String NINE = Checks.beds("111111111");
    private static final String FOUR_IFS = "if 1<2 then 3 else ".repeat(4);
    // "lies=1", n times "+1" and ";" are 4 + 2 n tokens.
    private static final String FULL = "lies=1" + "+1".repeat(198) + ";";
    private final Sentence sentence;

    TextSentences(Sentence sentence) {
        this.sentence = sentence;
    }

    void check() {
        sentence.in("Terms");
        bytes();
        tokens();
        names();
        ints();
        signs();
        tells();
        laws();
        sleepers();
        colds();
        lastOnes();
        order();
        syntax();
        room();
        laterFaults();
        faultChangesNothing();
        inPlaceOfTheOneAhead();
        newObject();
        feed();
        back();
        read();
        place();
    }

    private static void good(String text) {
        Checks.fault(text, 0, -1);
    }

    private static void bad(String text, int place) {
        Checks.fault(text, 1, place);
    }

    private void bytes() {
        sentence.of("A TEXT has 2,000 bytes at most.");
        PartedSide x = Checks.told(" ".repeat(1993) + "ring 1;");
        Checks.due("count(13), told by the last seven of 2,000 bytes", x.count(13), 1);
        bad(" ".repeat(1999) + "?", 1999);
        bad(" ".repeat(1994) + "ring 1", 2000);
        bad("ring 1;" + " ".repeat(1992) + "(", 1999);
    }

    private static boolean isBlank(int c) {
        return c == 9 || c == 10 || c == 13 || c == 32;
    }

    private static boolean isLetter(int c) {
        return c >= 'a' && c <= 'z';
    }

    private static boolean isDigit(int c) {
        return c >= '0' && c <= '9';
    }

    private void tokens() {
        sentence.of("TOKENS, the longest that can be, with blanks (9, 10, 13, 32) between or not:");
        for (int c = 0; c < 256; c++) {
            String text = "ring" + (char) c + "1;";
            if (isBlank(c) || c == '0') {
                good(text);
            } else if (isDigit(c)) {
                Checks.fault(text, 5, 4);
            } else {
                bad(text, isLetter(c) ? 0 : 4);
            }
        }
        good("\t\n\r sleeper\na\r1\t0\n;\r\n\t ");
        good("sleeper a1 0;sleeper b0 9;lies=if own<before then(own)else behind;ring1;seed0;begins7;cold1 9;");
        good("sleeper ringring 1 0;");
        good("lies=own*2;lies=2*own;");
        bad("ri ng 1;", 0);
        bad("sleeper a 1 0;sleeper b 10;", 26);
        bad("cold 01;", 7);
        Checks.fault("ring 11;", 5, 5);
        bad("lies = 1 2;", 9);
        bad("ringring 1;", 0);
        bad("lies = ownown;", 7);
        bad("lies = if1<2 then 1 elseown;", 20);
    }

    private void names() {
        sentence.of("NAMES (letters a .. z, 8 at most, none of the words in quotes),");
        for (int c = 0; c < 256; c++) {
            String text = "sleeper " + (char) c + " 1 0;";
            if (isLetter(c)) {
                good(text);
            } else {
                bad(text, isBlank(c) ? 10 : 8);
            }
        }
        for (String word : WORDS) {
            bad("sleeper " + word + " 1 0;", 8);
            good("sleeper " + word + "x 1 0;");
            good("sleeper " + word.substring(1) + " 1 0;");
            good("sleeper " + word.substring(0, word.length() - 1) + " 1 0;");
        }
        for (String noWord : new String[] {"left", "right", "text", "tell", "law", "part", "unit", "var", "name", "int", "row", "lot"}) {
            good("sleeper " + noWord + " 1 0;");
        }
        for (int length = 1; length <= 8; length++) {
            good("sleeper " + "z".repeat(length) + " 1 0; sleeper " + "a".repeat(length) + " 1 0;");
        }
        bad("sleeper " + "z".repeat(9) + " 1 0;", 8);
        bad("sleeper " + "a".repeat(9) + " 1 0;", 8);
        bad("sleeper " + "a".repeat(17) + " 1 0;", 8);
        // Each of the eight letters counts.
        for (int i = 0; i < 8; i++) {
            good("sleeper aaaaaaaa 1 0; sleeper " + "a".repeat(i) + "b" + "a".repeat(7 - i) + " 1 0;");
        }
    }

    private void ints() {
        sentence.of("INTS (1 to 4 digits),");
        String[] shortOnes = {"0", "9", "00", "90", "09", "000", "999", "0000", "9999", "0900"};
        for (String digits : shortOnes) {
            good("seed " + digits + ";");
        }
        for (String digits : new String[] {"00000", "00001", "10000", "99999", "000000", "0".repeat(1900), "9".repeat(1900)}) {
            bad("seed " + digits + ";", 5);
            bad("lies = " + digits + ";", 7);
        }
        PartedSide x = Checks.row("1", "costs = 0042 + 9999 - 9990 + 00;");
        Checks.due("costs", x.sleeper(0, 8), 51);
    }

    private void signs() {
        sentence.of("SIGNS ; = + - * / < ( ) .");
        for (int c = 0; c < 256; c++) {
            String text = "sleeper a 1 0; costs = 4" + (char) c + "2;";
            if (c == '+' || c == '-' || c == '*' || c == '/' || isDigit(c)) {
                int due = c == '+' ? 6 : c == '-' ? 2 : c == '*' ? 8 : c == '/' ? 2 : 99;
                Checks.due("costs = 4" + (char) c + "2", Checks.told(text).sleeper(0, 8), due);
            } else {
                bad(text, isBlank(c) || c == ';' ? 25 : 24);
            }
        }
        good("lies=if(1)<(2)then(3)else(4);");
        sentence.of("A longer one, all else, is no TOKEN.");
        bad("ring 1; abcdefghi", 8);
        bad("ring 1;\n12345", 8);
        bad("sleeper aB 1 0;", 9);
        bad("ring 1;.", 7);
        bad("ring 1; \u0000", 8);
        bad("ring 1; \u00ff", 8);
        bad("ring 1;\u000b", 7);
        bad("ring 1;\u000c", 7);
        bad("lies = 1 > 0;", 9);
        bad("lies = own[0];", 10);
        bad("lies = 1 % 2;", 9);
        bad("lies = 1 , 2;", 9);
    }

    private void tells() {
        sentence.of("text: {TELL}.");
        good("");
        good(" ");
        good(" ".repeat(2000));
        good("ring 1;");
        good("ring 1;".repeat(133));
        bad(";", 0);
        bad("ring 1;;", 7);
        sentence.of("TELL: 'sleeper' NAME INT INT ';' | 'cold' INT INT ';' | ('lies' | 'parts' | 'chills' | 'costs') LAW ';' "
            + "| 'ring' INT ';' | 'begins' INT ';' | 'seed' INT ';'.");
        bad("sleeper", 7);
        bad("sleeper ;", 8);
        bad("sleeper a;", 9);
        bad("sleeper a 1;", 11);
        bad("sleeper a 1 0", 13);
        bad("sleeper a 1 0 0;", 14);
        bad("sleeper a b 1 0;", 10);
        bad("sleeper 1 0;", 8);
        bad("sleeper a = 1 0;", 10);
        good("sleeper a 1 0; cold 0 0;");
        bad("cold ;", 5);
        bad("cold 0;", 6);
        bad("cold 0 0", 8);
        bad("cold 0 0 0;", 9);
        bad("cold a 0;", 5);
        for (String law : new String[] {"lies", "parts", "chills", "costs"}) {
            int length = law.length();
            good(law + "=1;");
            bad(law, length);
            bad(law + ";", length);
            bad(law + " 1;", length + 1);
            bad(law + "=1", length + 2);
            bad(law + "=;", length + 1);
        }
        for (String one : new String[] {"ring", "begins", "seed"}) {
            int length = one.length();
            good(one + " 1;");
            bad(one + ";", length);
            bad(one + " 1", length + 2);
            bad(one + " 1 1;", length + 3);
            bad(one + "=1;", length);
            bad(one + " a;", length + 1);
            bad(one + " -1;", length + 1);
        }
        for (String none : new String[] {"if", "then", "else", "own", "parted", "a", "7", "=", "+", "-", "*", "/", "<", "(", ")"}) {
            bad(none, 0);
            bad("ring 1; " + none, 8);
        }
    }

    private void laws() {
        sentence.of("LAW: '=' {'if' E '<' E 'then' E 'else'} E.");
        good("lies = 1;");
        good("lies = if 1 < 2 then 3 else 4;");
        good("lies = if 1+1 < 2*2 then 3-3 else if (1) < 2 then 4/4 else 5;");
        bad("lies = if ;", 10);
        bad("lies = if 1;", 11);
        bad("lies = if 1 then 2 else 3;", 12);
        bad("lies = if < 1 then 2 else 3;", 10);
        bad("lies = if 1 < then 2 else 3;", 14);
        bad("lies = if 1 < 2;", 15);
        bad("lies = if 1 < 2 < 3 then 1 else 2;", 16);
        bad("lies = if 1 < 2 3;", 16);
        bad("lies = if 1 < 2 else 3;", 16);
        bad("lies = if 1 < 2 then;", 20);
        bad("lies = if 1 < 2 then else 3;", 21);
        bad("lies = if 1 < 2 then 3;", 22);
        bad("lies = if 1 < 2 then 3 else;", 27);
        bad("lies = if 1 < 2 then if 1 < 2 then 3 else 4 else 5;", 21);
        bad("lies = if if 1 < 2 then 3 else 4 < 5 then 6 else 7;", 10);
        bad("lies = 1 if 1 < 2 then 3 else 4;", 9);
        bad("lies = 1 < 2;", 9);
        bad("lies == 1;", 6);
        bad("lies = if 1 < 2 then 3 else 4 else 5;", 30);
        sentence.of("E: PART {('+' | '-') PART}.");
        good("lies = 1 + 2 - 3 + 4;");
        bad("lies = + 1;", 7);
        bad("lies = - 1;", 7);
        bad("lies = 1 +;", 10);
        bad("lies = 1 -;", 10);
        bad("lies = 1 + - 1;", 11);
        bad("lies = 1 - - 1;", 11);
        sentence.of("PART: UNIT {('*' | '/') UNIT}.");
        good("lies = 1 * 2 / 3 * 4;");
        bad("lies = * 1;", 7);
        bad("lies = / 1;", 7);
        bad("lies = 1 *;", 10);
        bad("lies = 1 /;", 10);
        bad("lies = 1 * / 1;", 11);
        bad("lies = 1 * + 1;", 11);
        Checks.due("the product first", Checks.row("1", "costs = 2 + 3 * 4 - 6 / 2;").sleeper(0, 8), 11);
        Checks.due("from the left on", Checks.row("1", "costs = 20 - 3 - 2 - 4 / 2 * 3 / 2;").sleeper(0, 8), 12);
        sentence.of("UNIT: INT | VAR | '(' E ')'.");
        good("lies = (1 + 2) * (own - (3));");
        bad("lies = ();", 8);
        bad("lies = (1;", 9);
        bad("lies = 1);", 8);
        bad("lies = (1));", 10);
        bad("lies = (1 2);", 10);
        bad("lies = 1 (2);", 9);
        bad("lies = (if 1 < 2 then 3 else 4);", 8);
        bad("lies = (1 < 2);", 10);
        // A sum and a product wait within each of six brackets.
        PartedSide deep = Checks.row("1", "costs = 9-1*(9-1*(9-1*(9-1*(9-1*(9-1*(9-1*7))))));");
        Checks.due("costs", deep.sleeper(0, 8), 2);
        sentence.of("VAR: 'own' | 'before' | 'behind' | 'habit' | 'draft' | 'hour' | 'bed' | 'many' | 'parted'.");
        for (int i = 0; i < WORDS.length; i++) {
            boolean begun = WORDS[i].equals("if");
            Checks.fault("lies = " + WORDS[i] + ";", i < 12 ? 1 : 0, begun ? 9 : i < 12 ? 7 : -1);
            Checks.fault("lies = 1 + " + WORDS[i] + ";", i < 12 ? 1 : 0, i < 12 ? 11 : -1);
        }
        bad("sleeper a 1 0; lies = a;", 22);
    }

    private void sleepers() {
        sentence.of("SLEEPERS, 9 at most, one in each BED of a row, numbered from 0 on as they stand");
        for (int many = 0; many <= 9; many++) {
            PartedSide x = Checks.row("101010101".substring(0, many), "");
            Checks.due("count(0)", x.count(0), many);
            for (int bed = 0; bed < many; bed++) {
                Checks.due("sleeper(" + bed + ", 4)", x.sleeper(bed, 4), bed);
                Checks.due("sleeper(" + bed + ", 0)", x.sleeper(bed, 0), 1 - bed % 2);
            }
            Checks.due("none in bed " + many, x.sleeper(many, 4), -100000);
        }
        Checks.fault(NINE + "sleeper j 1 0;", 2, NINE.length());
        sentence.of("(a NAME, 1 LEFT or 0 RIGHT: how they lie at first, HABIT 0 .. 9).");
        PartedSide x = Checks.told("sleeper a 1 0; sleeper b 0 9; sleeper c 0001 0009;");
        Checks.due("a lies left", x.sleeper(0, 0), 1);
        Checks.due("b lies right", x.sleeper(1, 0), 0);
        Checks.due("c lies left", x.sleeper(2, 0), 1);
        Checks.due("habit of a", x.sleeper(0, 1), 0);
        Checks.due("habit of b", x.sleeper(1, 1), 9);
        Checks.due("habit of c", x.sleeper(2, 1), 9);
        Checks.fault("sleeper a 2 0;", 5, 10);
        Checks.fault("sleeper a 9999 0;", 5, 10);
        Checks.fault("sleeper a 1 10;", 5, 12);
        Checks.fault("sleeper a 1 9999;", 5, 12);
    }

    private void colds() {
        sentence.of("COLD, 9 at most");
        String all = "";
        for (int bed = 0; bed < 9; bed++) {
            all += "cold " + bed + " " + 11 * bed + ";";
        }
        PartedSide x = Checks.told(all + NINE);
        for (int bed = 0; bed < 9; bed++) {
            Checks.due("sleeper(" + bed + ", 3)", x.sleeper(bed, 3), 11 * bed);
        }
        good("sleeper a 1 0;" + "cold 0 1;".repeat(9));
        Checks.fault("sleeper a 1 0;" + "cold 0 1;".repeat(10), 2, 14 + 81);
        Checks.fault(NINE + all + "cold 8 1;", 2, (NINE + all).length());
        x = Checks.told(NINE + all);
        for (int i = 0; i < 3; i++) {
            Checks.feed(x, NINE + all);
            Checks.due("nine in each text", x.read(), 0);
        }
        sentence.of("(a BED 0 .. 8, how cold it is there 0 .. 99;");
        x = Checks.told(NINE + "cold 0 99; cold 8 0; cold 7 0099;");
        Checks.due("sleeper(0, 3)", x.sleeper(0, 3), 99);
        Checks.due("sleeper(8, 3)", x.sleeper(8, 3), 0);
        Checks.due("sleeper(7, 3)", x.sleeper(7, 3), 99);
        Checks.fault("cold 9 0;" + NINE, 5, 5);
        Checks.fault("cold 0 100;" + NINE, 5, 7);
        sentence.of("the last one for one BED; 0 if not told).");
        x = Checks.told("cold 1 7; cold 0 5; cold 1 3; sleeper a 1 0; sleeper b 1 0; sleeper c 1 0; cold 0 6; cold 1 0;");
        Checks.due("sleeper(0, 3)", x.sleeper(0, 3), 6);
        Checks.due("sleeper(1, 3)", x.sleeper(1, 3), 0);
        Checks.due("sleeper(2, 3)", x.sleeper(2, 3), 0);
    }

    private static void defaults(PartedSide x) {
        for (int bed = 0; bed < 2; bed++) {
            Checks.due("sleeper(" + bed + ", 5), as own", x.sleeper(bed, 5), x.sleeper(bed, 0));
            Checks.due("sleeper(" + bed + ", 6)", x.sleeper(bed, 6), 1);
            Checks.due("sleeper(" + bed + ", 7)", x.sleeper(bed, 7), 0);
            Checks.due("sleeper(" + bed + ", 8)", x.sleeper(bed, 8), 1);
        }
    }

    private void lastOnes() {
        sentence.of("LAWS: LIES (own), PARTS (1), CHILLS (0), COSTS (1), if not told; the last one.");
        PartedSide x = Checks.row("10", "");
        defaults(x);
        Checks.feed(x, Checks.beds("10") + "lies = 1 - own; parts = 7; chills = 8; costs = 9;");
        x.read();
        for (int bed = 0; bed < 2; bed++) {
            Checks.due("sleeper(" + bed + ", 5)", x.sleeper(bed, 5), bed);
            Checks.due("sleeper(" + bed + ", 6)", x.sleeper(bed, 6), 7);
            Checks.due("sleeper(" + bed + ", 7)", x.sleeper(bed, 7), 8);
            Checks.due("sleeper(" + bed + ", 8)", x.sleeper(bed, 8), 9);
        }
        Checks.feed(x, Checks.beds("10"));
        x.read();
        defaults(x);
        x = Checks.row("10", "lies = 0; parts = 2; chills = 3; costs = 4;".repeat(20)
            + "costs = 1 + 2 + 3; costs = 5; chills = 6; parts = 7; lies = 1;");
        Checks.due("the last LIES", x.sleeper(1, 5), 1);
        Checks.due("the last PARTS", x.sleeper(1, 6), 7);
        Checks.due("the last CHILLS", x.sleeper(1, 7), 6);
        Checks.due("the last COSTS", x.sleeper(1, 8), 5);
        ring();
        sentence.of("BEGINS: the hour of the day that it is at first 0 .. 23 (0),");
        Checks.due("not told", Checks.told("").count(1), 0);
        Checks.due("begins 0", Checks.told("begins 0;").count(1), 0);
        Checks.due("begins 23", Checks.told("begins 23;").count(1), 23);
        Checks.due("begins 23, of the day", Checks.told("begins 23;").count(2), 23);
        Checks.fault("begins 24;", 5, 7);
        Checks.fault("begins 9999;", 5, 7);
        Checks.due("the last one", Checks.told("begins 23; begins 4; begins 5;").count(1), 5);
        Checks.due("the last one, back to 0", Checks.told("begins 23; begins 0;").count(1), 0);
        sentence.of("SEED 0 .. 9999 (0): the last one.");
        int zero = nightBy("");
        Checks.due("not told", zero, nightBy("seed 0;"));
        Checks.due("the last one", nightBy("seed 9999; seed 17;"), nightBy("seed 17;"));
        Checks.due("the last one, back to 0", nightBy("seed 9999; seed 0;"), zero);
        Checks.due("another seed is another night", nightBy("seed 9999;") != zero, true);
        bad("seed 10000;", 5);
    }

    /** How nine lie behind three hours in which about half are chilled. */
    private static int nightBy(String seed) {
        PartedSide x = Checks.told(NINE + "chills = 50;" + seed);
        x.hours(3);
        return x.count(3);
    }

    private void ring() {
        sentence.of("RING 1: the first BED stands beside the last one, too (behind it; one BED alone beside itself);");
        String asked = "costs = before * 10 + behind;";
        PartedSide x = Checks.row("100000000", asked + "ring 1;");
        Checks.due("the first behind the last", x.sleeper(8, 8), 1);
        Checks.due("the first before the second", x.sleeper(1, 8), 10);
        Checks.due("the first not beside itself", x.sleeper(0, 8), 0);
        x = Checks.row("000000001", asked + "ring 1;");
        Checks.due("the last before the first", x.sleeper(0, 8), 10);
        Checks.due("one alone beside itself", Checks.row("1", asked + "ring 1;").sleeper(0, 8), 11);
        Checks.due("one alone, right", Checks.row("0", asked + "ring 1;").sleeper(0, 8), 0);
        x = Checks.row("10", asked + "ring 1;");
        Checks.due("two: both beside each other twice", x.sleeper(1, 8), 11);
        Checks.due("two: not beside themselves", x.sleeper(0, 8), 0);
        sentence.of("0: it does not (0);");
        for (String ring : new String[] {"", "ring 0;", "ring 1; ring 0;"}) {
            Checks.due("the last", Checks.row("100000000", asked + ring).sleeper(8, 8), 0);
            Checks.due("the first", Checks.row("000000001", asked + ring).sleeper(0, 8), 0);
            Checks.due("one alone", Checks.row("1", asked + ring).sleeper(0, 8), 0);
            Checks.due("the first of two", Checks.row("11", asked + ring).sleeper(0, 8), 1);
            Checks.due("the last of two", Checks.row("11", asked + ring).sleeper(1, 8), 10);
        }
        Checks.due("the last one told", Checks.told("ring 0; ring 1;").count(13), 1);
        Checks.fault("ring 2;", 5, 5);
    }

    private void order() {
        sentence.of("FAULTS of a text, the first by its place (a byte; the text's end: its length), of one place the least:");
        bad("? ?", 0);
        bad("ring 1; ? lies = (((((((1;", 8);
        Checks.fault("lies = (((((((1; ?", 2, 13);
        Checks.fault(NINE + "sleeper j 1 0; ? cold", 2, NINE.length());
        bad("ring ? " + NINE + "sleeper j 1 0;", 5);
        bad("ring", 4);
        bad("ring ", 5);
        bad("ring 1;\n lies = (1 ", 19);
        // A 401st token, a tenth sleeper, a fifth if, a seventh bracket with which no text goes on all the same.
        bad(FULL + "own", FULL.length());
        bad("lies = 1 + " + "(".repeat(6) + "1(", 18);
        bad("lies = " + FOUR_IFS + "1 if 1 < 2 then 3 else 4;", 7 + FOUR_IFS.length() + 2);
        bad(NINE + "ring sleeper j 1 0;", NINE.length() + 5);
        bad(NINE + "cold 0 1;".repeat(9) + "ring cold 0 1;", NINE.length() + 81 + 5);
    }

    private void syntax() {
        sentence.of("1 SYNTAX: a TOKEN, or what is none, with which no text goes on.");
        bad("sleeper a 1 0; lies own;", 20);
        bad("sleeper a 1 0; lies = own before;", 26);
        bad("sleeper a 1 0 sleeper b 1 0;", 14);
        bad("ring 1; 7", 8);
        bad("ring 1; abcdefghi", 8);
        bad("ring 12345;", 5);
        bad("ring 1 ?", 7);
        bad("ring 1", 6);
        // Wrong as it is, a text may still go on with a token of the right sort.
        bad("sleeper a 77 88; cold 99 999; ring 5; begins 55; x", 49);
        // What begins the next one does not end the one ahead of it.
        String[] begun = {"ring ", "begins ", "seed ", "cold ", "cold 0 ", "sleeper ", "sleeper a ", "sleeper a 1 ", "lies ", "lies = ",
            "lies = 1 + ", "lies = 1 ", "lies = if ", "lies = if 1 < 2 then ", "lies = if 1 < 2 then 1 ", "lies = (1 ", "ring 1 ",
            "begins 1 ", "seed 1 ", "cold 0 1 ", "sleeper a 1 1 ", "parts = 2 * ", "chills = if 1 ", "costs = if 1 < 2 "};
        for (String first : begun) {
            bad(first + "ring 1;", first.length());
        }
    }

    private void room() {
        sentence.of("2 ROOM: a 401st TOKEN;");
        good(FULL);
        good("ring 1;".repeat(132) + "lies=1;");
        Checks.fault("ring 1;".repeat(133) + "ring 1", 2, 936);
        Checks.fault("ring 1;".repeat(133) + " ring 1;", 2, 937);
        Checks.fault(FULL + " ring 1;", 2, FULL.length() + 1);
        Checks.fault(FULL + "sleeper", 2, FULL.length());
        Checks.fault("lies=1" + "+1".repeat(199) + ";", 2, 6 + 396 + 1);
        Checks.fault("ring 1;lies=1" + "+1".repeat(197) + ";", 2, 13 + 394);
        Checks.fault("ring 1;lies=(1" + "+1".repeat(196) + ");", 2, 14 + 392 + 1);
        good("ring 1;lies=1" + "+1".repeat(196) + ";");
        bad(FULL + " ?", FULL.length() + 1);
        bad("ring 1;lies=1" + "+1".repeat(197), 13 + 394);
        sentence.of("one more of a sort than told (at its first TOKEN);");
        good(NINE);
        Checks.fault(NINE + " sleeper j 1 0;", 2, NINE.length() + 1);
        Checks.fault(NINE + "sleeper a 2 99;", 2, NINE.length());
        Checks.fault(NINE + "sleeper", 2, NINE.length());
        Checks.fault(NINE + "sleeper ?", 2, NINE.length());
        Checks.fault(NINE + "ring 1; sleeper j 1 0; sleeper k 1 0;", 2, NINE.length() + 8);
        Checks.fault("sleeper a 1 0;" + "cold 0 1;".repeat(9) + "ring 1; cold 0 1;", 2, 14 + 81 + 8);
        Checks.fault("cold 9 100;".repeat(9) + "cold", 2, 99);
        good(NINE + "cold 0 1;".repeat(9) + "ring 1;".repeat(30) + "seed 1;".repeat(30) + "begins 1;".repeat(10) + "costs=1;".repeat(10));
        sentence.of("a 5th if of a LAW (at it);");
        for (String law : new String[] {"lies", "parts", "chills", "costs"}) {
            good(law + "=" + FOUR_IFS + "1;");
            int at = law.length() + 1 + FOUR_IFS.length();
            Checks.fault(law + "=" + FOUR_IFS + "if 1<2 then 3 else 1;", 2, at);
            Checks.fault(law + "=" + FOUR_IFS + "if", 2, at);
        }
        good(("lies=" + FOUR_IFS + "1;").repeat(5));
        good("parts=" + FOUR_IFS + "1; costs=" + FOUR_IFS + "1; parts=" + FOUR_IFS + "1;");
        sentence.of("a 7th ( within one another (at it).");
        good("lies = ((((((1))))));");
        good("lies = ((((((1)))))) + ((((((1)))))) * ((((((1))))));");
        good("lies = " + "(1)+".repeat(20) + "1;");
        good("lies = ((((((1)+(1))))));");
        good("lies = if ((((((1)))))) < ((((((2)))))) then ((((((3)))))) else ((((((4))))));");
        Checks.fault("lies = (((((((1)))))));", 2, 13);
        Checks.fault("lies = (((((( (", 2, 14);
        Checks.fault("lies = (1+(1+(1+(1+(1+(1+1*(1)))))));", 2, 27);
        Checks.fault("lies = if (((((((1))))))) < 2 then 3 else 4;", 2, 16);
        Checks.fault("lies = if 1 < (((((((2))))))) then 3 else 4;", 2, 20);
        Checks.fault("lies = if 1 < 2 then (((((((3))))))) else 4;", 2, 27);
        Checks.fault("lies = if 1 < 2 then 3 else (((((((4)))))));", 2, 34);
        Checks.fault("lies = ((((((1)+((1)))))));", 2, 17);
    }

    private void laterFaults() {
        sentence.of("If there is none, likewise:");
        bad("sleeper a 2 0; x", 15);
        Checks.fault("sleeper a 2 0; sleeper a 1 0; lies = (((((((1)))))));", 2, 43);
        Checks.fault("sleeper a 1 0; sleeper a 2 0; cold 5 5;", 3, 23);
        Checks.fault("sleeper a 2 0; sleeper a 1 0; cold 5 5;", 5, 10);
        Checks.fault("cold 5 5; ring 2;", 5, 15);
        Checks.fault("cold 5 5; sleeper a 1 0; sleeper a 1 0;", 3, 33);
        Checks.fault("cold 9 100; sleeper a 2 10; ring 2; begins 24;", 5, 5);
        Checks.fault("begins 24; ring 2;", 5, 7);
        Checks.fault("ring 2; begins 24;", 5, 5);
        sentence.of("3 TWICE: a NAME told already.");
        Checks.fault("sleeper a 1 0; sleeper  a 0 1;", 3, 24);
        Checks.fault("sleeper a 1 0; sleeper b 1 0; sleeper c 1 0; sleeper a 1 0;", 3, 53);
        Checks.fault("sleeper abcdefgh 1 0; sleeper abcdefgh 1 0;", 3, 30);
        Checks.fault(Checks.beds("11111111") + "sleeper h 1 0;", 3, 8 * 14 + 8);
        good("sleeper a 1 0; sleeper aa 1 0; sleeper aaa 1 0; sleeper b 1 0; sleeper ab 1 0; sleeper ba 1 0;");
        PartedSide x = Checks.row("1", "");
        Checks.feed(x, "sleeper a 0 0;");
        Checks.due("a name of the text ahead", x.read(), 0);
        sentence.of("5 WRONG (at the INT): a number not as told above.");
        Checks.fault("sleeper a  2 0;", 5, 11);
        Checks.fault("sleeper a 1  10;", 5, 13);
        Checks.fault("cold  9 0;", 5, 6);
        Checks.fault("sleeper a 1 0; cold 0  100;", 5, 23);
        Checks.fault("ring  2;", 5, 6);
        Checks.fault("begins  24;", 5, 8);
        Checks.fault("sleeper a 2 10;", 5, 10);
        Checks.fault("ring 2; ring 1;", 5, 5);
        good("lies = 9999; parts = 9999; chills = 9999; costs = 9999;");
        sentence.of("6 BEDS (at the text's end): COLD of a BED that there is not.");
        Checks.fault("cold 0 0;", 6, 9);
        Checks.fault("cold 0 0;  ", 6, 11);
        Checks.fault("cold 0 0; sleeper a 1 0; cold 1 1; ring 1;", 6, 42);
        Checks.fault("cold 1 1; sleeper a 1 0; cold 0 5; ", 6, 35);
        Checks.fault(Checks.beds("11111111") + "cold 8 1;", 6, 8 * 14 + 9);
        good("cold 8 1;" + NINE);
        good("cold 0 1; sleeper a 1 0;");
    }

    private void faultChangesNothing() {
        sentence.of("A text with a FAULT changes nothing but the tape;");
        String[] faulty = {"sleeper z 1 1; lies = 0; ring 0; begins 9; ?", NINE + "sleeper j 1 0;", "sleeper z 1 0; sleeper z 1 0; costs = 50;",
            "sleeper z 1 1; chills = 100; parts = 3; begins 24;", "sleeper z 1 1; cold 0 50; cold 1 1; seed 5;"};
        int[] faults = {1, 2, 3, 5, 6};
        for (int i = 0; i < faulty.length; i++) {
            PartedSide x = Checks.told("sleeper a 1 3; sleeper b 0 4; sleeper c 1 5; cold 1 20; ring 1; begins 7; seed 9;"
                + "lies = before; parts = habit; chills = draft; costs = 2 + bed;");
            x.hold(2);
            x.hours(5);
            x.turn(1);
            x.change(0, 2);
            x.tell(1, 2, true);
            x.tell(0, 0, false);
            String before = Checks.seen(x);
            int lay = x.lay(2, 1);
            int then = x.then(0, 40, 2);
            Checks.feed(x, faulty[i]);
            Checks.due("read()", x.read(), faults[i]);
            Checks.due("the tape", x.count(7), 0);
            Checks.same("all that goes on", Checks.seen(x), before);
            Checks.due("what is told", x.lay(2, 1), lay);
            Checks.due("what would be", x.then(0, 40, 2), then);
            Checks.due("undo()", x.undo(), true);
            Checks.due("sleeper(0, 4)", x.sleeper(0, 4), 0);
            Checks.due("restore(2)", x.restore(2), true);
            Checks.due("count(1)", x.count(1), 7);
        }
    }

    private void inPlaceOfTheOneAhead() {
        sentence.of("else it is in place of the one ahead: no parting; nothing can be undone, nothing is TOLD, SLOTS hold nothing.");
        for (String next : new String[] {"", Checks.beds("1"), Checks.beds("01") + "lies = 1 - own;", Checks.beds("010") + "chills = 50;"}) {
            PartedSide x = Checks.told("sleeper x 1 3; sleeper y 0 4; sleeper z 1 5; cold 1 20; ring 1; begins 7; seed 9;"
                + "lies = before; parts = habit; chills = 60; costs = 2 + bed;");
            x.hours(5);
            x.turn(1);
            x.tell(1, 2, true);
            x.after(0, 24);
            for (int slot = 0; slot < 3; slot++) {
                x.hold(slot);
            }
            Checks.feed(x, next);
            Checks.due("read()", x.read(), 0);
            Checks.same("all that goes on", Checks.seen(x), Checks.seen(Checks.told(next)));
            for (int n = 0; n <= 24; n++) {
                Checks.due("after(0, " + n + ")", x.after(0, n), Checks.told(next).after(0, n));
                Checks.due("then(0, " + n + ", 2)", x.then(0, n, 2), Checks.told(next).then(0, n, 2));
            }
            for (int bed = 0; bed < x.count(0); bed++) {
                Checks.due("no parting", x.sleeper(bed, 2), 0);
            }
            Checks.due("undo()", x.undo(), false);
            Checks.due("count(8)", x.count(8), 0);
            Checks.due("count(9)", x.count(9), 0);
            Checks.due("forget()", x.forget(), 0);
            Checks.due("count(10)", x.count(10), 0);
            for (int slot = 0; slot < 3; slot++) {
                Checks.due("restore(" + slot + ")", x.restore(slot), false);
            }
        }
    }

    private void newObject() {
        sentence.in("Promise 1");
        sentence.of("No SLEEPERS.");
        PartedSide x = new PartedSide();
        Checks.due("NONE", PartedSide.NONE, -1);
        for (int what = 0; what <= 16; what++) {
            Checks.due("count(" + what + ")", x.count(what), 0);
        }
        Checks.due("sleeper(0, 0)", x.sleeper(0, 0), -100000);
        Checks.due("turn(0)", x.turn(0), false);
        Checks.due("undo()", x.undo(), false);
        Checks.due("restore(0)", x.restore(0), false);
    }

    private void feed() {
        sentence.in("Promise 2");
        sentence.of("Twenty bytes, the highest of a first, come behind the tape: how many it has.");
        PartedSide x = new PartedSide();
        for (int i = 0; i < 20; i++) {
            int[] v = {0x20202020, 0x20202020, 0x20202020, 0x20202020, 0x20202020};
            v[i / 4] ^= (' ' ^ '?') << 24 - i % 4 * 8;
            Checks.due("feed", x.feed(v[0], v[1], v[2], v[3], v[4]), 20);
            x.read();
            Checks.due("the place of byte " + i, x.place(), i);
        }
        x.feed(0x72696e67, 0x20202020, 0x20202020, 0x20202020, 0x20202020);
        Checks.due("feed behind the tape", x.feed(0x20202020, 0x20202020, 0x20202020, 0x20202020, 0x2020313b), 40);
        Checks.due("read() of ring, blanks, 1;", x.read(), 0);
        Checks.due("count(13)", x.count(13), 1);
        x.feed(0x20ff2020, 0x80202020, 0xffffffff, -1, Integer.MIN_VALUE);
        Checks.due("bytes above 127", x.read(), 1);
        Checks.due("their place", x.place(), 1);
        sentence.of("NONE, and nothing comes, if it would have more than 2,000.");
        for (int over = 0; over <= 20; over++) {
            x = new PartedSide();
            Checks.feed(x, " ".repeat(1980 + over));
            int due = over == 0 ? 2000 : -1;
            Checks.due("feed to " + (1980 + over), x.feed(0x3f3f3f3f, 0x3f3f3f3f, 0x3f3f3f3f, 0x3f3f3f3f, 0x3f3f3f3f), due);
            Checks.due("count(7)", x.count(7), over == 0 ? 2000 : 1980 + over);
            Checks.due("read()", x.read(), over == 0 ? 1 : 0);
        }
    }

    private void back() {
        sentence.in("Promise 3");
        sentence.of("The last n bytes of the tape go: how many it has.");
        PartedSide x = new PartedSide();
        Checks.due("back(0) of nothing", x.back(0), 0);
        Checks.feed(x, "ring 1; ring 0; ???");
        Checks.due("back(0)", x.back(0), 19);
        Checks.due("back(4)", x.back(4), 15);
        Checks.due("back(8)", x.back(8), 7);
        Checks.due("count(7)", x.count(7), 7);
        Checks.due("read()", x.read(), 0);
        Checks.due("count(13)", x.count(13), 1);
        Checks.feed(x, "?".repeat(2000));
        Checks.due("back(2000)", x.back(2000), 0);
        Checks.due("read()", x.read(), 0);
        sentence.of("NONE, and nothing goes, if it has not so many, or n is below 0.");
        x = new PartedSide();
        Checks.due("back(1) of nothing", x.back(1), -1);
        Checks.feed(x, "ring 1;");
        for (int n : new int[] {8, 9, 2000, 2001, Integer.MAX_VALUE, -1, -2, -7, Integer.MIN_VALUE}) {
            Checks.due("back(" + n + ")", x.back(n), -1);
            Checks.due("count(7)", x.count(7), 7);
        }
        Checks.due("back(7)", x.back(7), 0);
        Checks.due("back(1)", x.back(1), -1);
    }

    private void read() {
        sentence.in("Promise 4");
        sentence.of("The tape, which is empty then, is read: 0, or the number of its FAULT.");
        String[] texts = {"ring 1;", "ring", "lies = (((((((1)))))));", "sleeper a 1 0; sleeper a 1 0;", "ring 2;", "cold 0 0;", ""};
        int[] due = {0, 1, 2, 3, 5, 6, 0};
        PartedSide x = new PartedSide();
        for (int i = 0; i < texts.length; i++) {
            Checks.feed(x, texts[i]);
            Checks.due("read() of " + texts[i], x.read(), due[i]);
            Checks.due("count(7)", x.count(7), 0);
            Checks.due("back(1)", x.back(1), -1);
        }
        Checks.due("read() of nothing once more", x.read(), 0);
        Checks.feed(x, "ring");
        x.read();
        Checks.feed(x, " 1;");
        Checks.due("what was faulty is not gone on with", x.read(), 1);
    }

    private void place() {
        sentence.in("Promise 5");
        sentence.of("The byte of the latest read()'s FAULT; NONE without.");
        PartedSide x = new PartedSide();
        Checks.due("place() before any read()", x.place(), -1);
        Checks.feed(x, "?");
        Checks.due("place() before read()", x.place(), -1);
        x.read();
        Checks.due("place() of the first byte", x.place(), 0);
        Checks.feed(x, "ring 2; ring");
        Checks.due("place() of the latest read() still", x.place(), 0);
        x.read();
        Checks.due("place() at the end", x.place(), 12);
        x.hours(3);
        x.undo();
        Checks.due("place() again", x.place(), 12);
        Checks.feed(x, "ring 2;");
        x.read();
        Checks.due("place()", x.place(), 5);
        x.read();
        Checks.due("place() without", x.place(), -1);
    }
}
