/** Promises 1 to 5: a new object, the tape, the text's form and its faults. */
public final class TextTest {
    public static void main(String[] args) {
        promise1();
        promise2();
        promise3();
        promise4();
        laws();
        syntaxFaults();
        roomFaults();
        laterFaults();
        oneAfterTheOther();
        promise5();
        Checks.end("TextTest");
    }

    private static void promise1() {
        Checks.about("promise 1");
        PartedSide x = new PartedSide();
        Checks.due("NONE", PartedSide.NONE, -1);
        for (int what = 0; what <= 16; what++) {
            Checks.due("count(" + what + ")", x.count(what), 0);
        }
        Checks.due("sleeper(0, 0)", x.sleeper(0, 0), -100000);
        Checks.due("place()", x.place(), -1);
        Checks.due("undo()", x.undo(), false);
    }

    private static void promise2() {
        Checks.about("promise 2");
        PartedSide x = new PartedSide();
        for (int i = 1; i <= 100; i++) {
            Checks.due("feed " + i, x.feed(0x20202020, 0x20202020, 0x20202020, 0x20202020, 0x20202020), 20 * i);
        }
        Checks.due("feed 101", x.feed(0x20202020, 0, 0, 0, 0), -1);
        Checks.due("count(7)", x.count(7), 2000);
        Checks.due("back(19)", x.back(19), 1981);
        Checks.due("feed of 20 to 1981", x.feed(0, 0, 0, 0, 0), -1);
        Checks.due("back(1)", x.back(1), 1980);
        Checks.due("feed of 20 to 1980", x.feed(0x20202020, 0x20202020, 0x20202020, 0x20202020, 0x20202020), 2000);
        Checks.due("read() of 2000 blanks", x.read(), 0);
        // The bytes come in order, the highest of each first: "sleeper ab 1 7;     "
        Checks.due("feed", x.feed(0x736c6565, 0x70657220, 0x61622031, 0x20373b20, 0x20202020), 20);
        Checks.due("read()", x.read(), 0);
        Checks.due("sleeper(0, 1)", x.sleeper(0, 1), 7);
        // A byte above 127 stays itself and is no token.
        x.feed(0x20202020, 0x2020e920, 0x20202020, 0x20202020, 0x20202020);
        Checks.due("read()", x.read(), 1);
        Checks.due("place()", x.place(), 6);
    }

    private static void promise3() {
        Checks.about("promise 3");
        PartedSide x = new PartedSide();
        Checks.due("back(0)", x.back(0), 0);
        Checks.due("back(1)", x.back(1), -1);
        Checks.feed(x, "ring 1; ring 0;");
        Checks.due("back(16)", x.back(16), -1);
        Checks.due("back(-1)", x.back(-1), -1);
        Checks.due("back(min)", x.back(Integer.MIN_VALUE), -1);
        Checks.due("back(max)", x.back(Integer.MAX_VALUE), -1);
        Checks.due("count(7)", x.count(7), 15);
        Checks.due("back(0)", x.back(0), 15);
        Checks.due("back(8)", x.back(8), 7);
        Checks.due("read()", x.read(), 0);
        Checks.due("count(13)", x.count(13), 1);
        Checks.feed(x, "ring 1;");
        Checks.due("back(7)", x.back(7), 0);
    }

    private static void promise4() {
        Checks.about("promise 4");
        PartedSide x = Checks.told("sleeper a 1 0;sleeper b 0 9;cold 1 99;cold 1 5;ring 0;ring 1;begins 1;begins 23;seed 9999;");
        Checks.due("count(7)", x.count(7), 0);
        Checks.due("count(0)", x.count(0), 2);
        Checks.due("count(3)", x.count(3), 1);
        Checks.due("count(16)", x.count(16), 9);
        Checks.due("sleeper(1, 3)", x.sleeper(1, 3), 5);
        Checks.due("sleeper(0, 3)", x.sleeper(0, 3), 0);
        Checks.due("count(13)", x.count(13), 1);
        Checks.due("count(1)", x.count(1), 23);
        // A fault changes nothing but the tape.
        x.hold(0);
        x.hold(1);
        x.hold(2);
        x.turn(0);
        x.tell(1, 2, true);
        Checks.feed(x, "sleeper c 1 1; sleeper");
        Checks.due("read()", x.read(), 1);
        Checks.due("count(7)", x.count(7), 0);
        Checks.due("count(0)", x.count(0), 2);
        Checks.due("count(3)", x.count(3), 0);
        Checks.due("count(8)", x.count(8), 1);
        Checks.due("count(9)", x.count(9), 1);
        Checks.due("count(10)", x.count(10), 3);
        Checks.due("sleeper(1, 3)", x.sleeper(1, 3), 5);
        x.hours(5);
        // A text without is in place of the one ahead, with nothing kept of it.
        Checks.feed(x, "sleeper z 1 4;");
        Checks.due("read()", x.read(), 0);
        int[] due = {1, 0, 0, 1, 1, 0, 1, 0, 0, 0, 0, 0, 0, 0, 0, 0, 4};
        for (int what = 0; what <= 16; what++) {
            Checks.due("count(" + what + ")", x.count(what), due[what]);
        }
        Checks.due("sleeper(0, 2)", x.sleeper(0, 2), 0);
        Checks.due("sleeper(0, 9)", x.sleeper(0, 9), 0);
        for (int slot = 0; slot < 3; slot++) {
            Checks.due("restore(" + slot + ")", x.restore(slot), false);
        }
        Checks.due("undo()", x.undo(), false);
        Checks.feed(x, "sleeper a 1 1; chills = 100;");
        x.read();
        x.hours(7);
        Checks.due("count(11)", x.count(11), 7);
        Checks.feed(x, "sleeper a 1 1;");
        x.read();
        Checks.due("count(11)", x.count(11), 0);
        Checks.due("read() of nothing", x.read(), 0);
        Checks.due("count(0)", x.count(0), 0);
        // Blanks need not stand between, and may stand anywhere.
        x = Checks.told("\t\r\nsleeper\na1\t0;sleeper b1 1;costs=3*(bed+1)-own;lies\r=\rown ;");
        Checks.due("count(3)", x.count(3), 3);
        Checks.due("sleeper(1, 8)", x.sleeper(1, 8), 5);
        x = Checks.told("sleeper sleepers 0001 0009;sleeper iff 0 0;sleeper left 1 1;cold 0002 0099;");
        Checks.due("count(3)", x.count(3), 5);
        Checks.due("sleeper(2, 3)", x.sleeper(2, 3), 99);
        x = Checks.told("sleeper a 1 0;sleeper aa 1 0;sleeper aaa 1 0;sleeper b 1 0;sleeper ab 1 0;sleeper ba 1 0;"
            + "sleeper zzzzzzzz 1 0;sleeper zzzzzzza 1 0;sleeper azzzzzzz 1 0;cold 8 17;");
        Checks.due("count(0)", x.count(0), 9);
        Checks.due("sleeper(8, 3)", x.sleeper(8, 3), 17);
    }

    /** What COSTS tells of one sleeper, who lies left, of habit 7, in a cold of 42. */
    private static void cost(String law, int due) {
        PartedSide x = Checks.told("sleeper a 1 7; cold 0 42; begins 5; costs = " + law + ";");
        Checks.due("costs = " + law, x.sleeper(0, 8), due);
    }

    private static void laws() {
        Checks.about("laws");
        cost("8 - 3 - 2", 3);
        cost("2 + 3 * 4", 14);
        cost("(2 + 3) * 4", 20);
        cost("90 / 3 / 2", 15);
        cost("90 / 7 * 7", 84);
        cost("50 + (0 - 7) / 2", 47);
        cost("own + habit * 2 + draft", 57);
        cost("hour * 10 + bed + many", 51);
        cost("before + behind", 0);
        cost("100", 99);
        cost("0 - 1", 0);
        cost("9999 * 9999", 99);
        // 9999 * 9999 * 22 is 2199560022, which wraps to less than 0
        cost("9999 * 9999 * 22", 0);
        // 9999 * 9999 * 43 is 4299140043, which wraps to 4172747
        cost("9999 * 9999 * 43 - 4172 * 1000 - 740", 7);
        cost("if 9999 * 9999 * 22 < 0 then 3 else 4", 3);
        // 2147483648 is the lowest int, and it is divided by -1 as ints are
        cost("if 2048 * 1024 * 1024 / (0 - 1) < 0 then 7 else 8", 7);
        cost("1 / 0", 0);
        cost("5 + 0 * (1 / 0)", 0);
        cost("if 1 < 2 then 11 else 1 / 0", 11);
        cost("if 2 < 2 then 1 / 0 else 12", 12);
        cost("if 1 / 0 < 2 then 11 else 12", 0);
        cost("if 1 < 2 / bed then 11 else 12", 0);
        cost("if 1 < 2 then 4 / bed else 12", 0);
        cost("if 1 < 2 then 9 else if 1 / 0 < 1 then 8 else 7", 9);
        cost("if 2 < 1 then 9 else if 1 / 0 < 1 then 8 else 7", 0);
        cost("if 2 < 1 then 1 else if 3 < 1 then 2 else if 4 < 1 then 3 else if 4 < 5 then 4 else 5", 4);
        cost("if 2 < 1 then 1 else if 3 < 1 then 2 else if 4 < 1 then 3 else if 5 < 5 then 4 else 5", 5);
        cost("((((((3))))))", 3);
        cost("1+(2+(3+(4+(5+(6+(7*2))))))", 35);
        // a sum and a product wait within each of the brackets
        cost("1+1*(1+1*(1+1*(1+1*(1+1*(1+1*(1+1*1))))))", 8);
        cost("9-1*(9-1*(9-1*(9-1*(9-1*(9-1*(9-1*7))))))", 2);
        cost("1*2+(2*3+(3*4+(4*5+(5*1+(6*1+(7*1+2*2))))))", 62);
        // the last one told counts, and one not told is as it was without a text
        PartedSide x = Checks.told("sleeper a 0 3; costs = 5; lies = 1; costs = 7; parts = habit; chills = 44;");
        Checks.due("sleeper(0, 8)", x.sleeper(0, 8), 7);
        Checks.due("sleeper(0, 5)", x.sleeper(0, 5), 1);
        Checks.due("sleeper(0, 6)", x.sleeper(0, 6), 3);
        Checks.due("sleeper(0, 7)", x.sleeper(0, 7), 44);
        Checks.feed(x, "sleeper a 0 3;");
        x.read();
        Checks.due("sleeper(0, 8)", x.sleeper(0, 8), 1);
        Checks.due("sleeper(0, 5)", x.sleeper(0, 5), 0);
        Checks.due("sleeper(0, 6)", x.sleeper(0, 6), 1);
        Checks.due("sleeper(0, 7)", x.sleeper(0, 7), 0);
    }

    private static void syntaxFaults() {
        Checks.about("SYNTAX");
        Checks.fault("x", 1, 0);
        Checks.fault(";", 1, 0);
        Checks.fault("sleeper a 1 0", 1, 13);
        Checks.fault("sleeper a 1 0  ", 1, 15);
        Checks.fault("sleeper a 1 0;;", 1, 14);
        Checks.fault("sleeper 1 0;", 1, 8);
        Checks.fault("sleeper own 1 0;", 1, 8);
        Checks.fault("sleeper parted 1 0;", 1, 8);
        Checks.fault("sleeper abcdefghi 1 0;", 1, 8);
        Checks.fault("sleeper A 1 0;", 1, 8);
        Checks.fault("sleeper aB 1 0;", 1, 9);
        Checks.fault("sleeper a 10000 0;", 1, 10);
        Checks.fault("sleeper a 00001 0;", 1, 10);
        Checks.fault("sleeper a 10;", 1, 12);
        Checks.fault("sleepera 1 0;", 1, 0);
        Checks.fault("cold 1;", 1, 6);
        Checks.fault("ring -1;", 1, 5);
        Checks.fault("ring 1.", 1, 6);
        Checks.fault("lies own;", 1, 5);
        Checks.fault("lies = ;", 1, 7);
        Checks.fault("lies = own before;", 1, 11);
        Checks.fault("lies = own + ;", 1, 13);
        Checks.fault("lies = (own;", 1, 11);
        Checks.fault("lies = own);", 1, 10);
        Checks.fault("lies = ();", 1, 8);
        Checks.fault("lies = -1;", 1, 7);
        Checks.fault("lies = if own then 1 else 2;", 1, 14);
        Checks.fault("lies = if own < 1 < 2 then 1 else 2;", 1, 18);
        Checks.fault("lies = if 1 < 2 then 1;", 1, 22);
        Checks.fault("lies = if 1 < 2 then if 1 < 2 then 1 else 1 else 1;", 1, 21);
        Checks.fault("lies = (if 1 < 2 then 1 else 2);", 1, 8);
        Checks.fault("lies = 1 + if 1 < 2 then 1 else 2;", 1, 11);
        Checks.fault("lies = name;", 1, 7);
        Checks.fault("lies = 1 \u000b;", 1, 9);
        Checks.fault("ring 1; \0", 1, 8);
        // What begins the next one does not end the one before it.
        String[] begun = {"ring ", "begins ", "seed ", "cold ", "cold 0 ", "sleeper ", "sleeper a ", "sleeper a 1 ", "lies ", "lies = ",
            "lies = 1 + ", "lies = 1 ", "lies = if ", "lies = if 1 < 2 then ", "lies = if 1 < 2 then 1 ", "lies = (1 ", "ring 1 ",
            "cold 0 1 ", "sleeper a 1 1 ", "parts = 2 * ", "chills = if 1 ", "costs = if 1 < 2 "};
        for (String first : begun) {
            Checks.fault(first + "ring 1;", 1, first.length());
        }
        // A fault of form anywhere comes ahead of all others.
        Checks.fault("sleeper a 2 0; sleeper a 1 10; cold 8 100; x", 1, 43);
    }

    private static void roomFaults() {
        Checks.about("ROOM");
        String nine = "";
        for (int i = 0; i < 9; i++) {
            nine += "sleeper " + (char) ('a' + i) + " 1 0;";
        }
        PartedSide x = Checks.told(nine);
        Checks.due("count(0)", x.count(0), 9);
        Checks.fault(nine + " sleeper j 1 0;", 2, nine.length() + 1);
        Checks.fault(nine + " sleeper", 2, nine.length() + 1);
        String colds = Checks.repeated("cold 0 1;", 9);
        Checks.fault("sleeper a 1 0;" + colds, 0, -1);
        Checks.fault("sleeper a 1 0;" + colds + "cold 0 1;", 2, 14 + colds.length());
        String ifs = Checks.repeated("if 1 < 2 then 3 else ", 4);
        Checks.fault("lies = " + ifs + "1; parts = " + ifs + "1;", 0, -1);
        Checks.fault("lies = " + ifs + "if 1 < 2 then 3 else 1;", 2, 7 + ifs.length());
        Checks.fault("lies = ((((((1)))))) + ((((((1))))));", 0, -1);
        Checks.fault("lies = if ((((((1)))))) < ((((((1)))))) then ((((((1)))))) else ((((((1))))));", 0, -1);
        Checks.fault("lies = if 1 < 2 then (((((((1))))))) else 1;", 2, 27);
        Checks.fault("lies = (((((((1)))))));", 2, 13);
        Checks.fault("lies = 1 + (((((( 2 * ( 1 ))))))); ?", 2, 22);
        // "lies = 1", n times "+ 1", and ";" are 4 + 2 n tokens, "ring 1;" are 3
        String whole = "lies=1" + Checks.repeated("+1", 198) + ";";
        Checks.fault(whole, 0, -1);
        for (String more : new String[] {"ring 1;", "begins 1;", "seed 1;", "cold 0 1;", "sleeper a 1 1;", "lies = 1;", "costs"}) {
            Checks.fault(whole + more, 2, whole.length());
        }
        Checks.fault(whole + " own;", 1, whole.length() + 1);
        Checks.fault("lies=1" + Checks.repeated("+1", 199) + ";", 2, 6 + 396 + 1);
        Checks.fault("ring 1;lies=1" + Checks.repeated("+1", 197) + ";", 2, 13 + 394);
        Checks.fault("ring 1;lies=1" + Checks.repeated("+1", 197) + ")", 1, 13 + 394);
        Checks.fault("ring 1;lies=1" + Checks.repeated("+1", 197), 1, 13 + 394);
        Checks.fault("ring 1;lies=1" + Checks.repeated("+1", 197) + " ?", 1, 13 + 394 + 1);
        Checks.fault(Checks.repeated("ring 1;", 133) + "ring", 1, 935);
        Checks.fault(Checks.repeated("ring 1;", 133) + "ring 1", 2, 936);
    }

    private static void laterFaults() {
        Checks.about("TWICE, WRONG, BEDS");
        Checks.fault("sleeper a 1 0; sleeper b 1 0; sleeper a 0 0;", 3, 38);
        Checks.fault("sleeper a 1 0; sleeper a 2 0;", 3, 23);
        Checks.fault("sleeper a 2 0; sleeper a 1 0;", 5, 10);
        Checks.fault("sleeper a 1 10;", 5, 12);
        Checks.fault("cold 9 0;", 5, 5);
        Checks.fault("sleeper a 1 0; cold 0 100;", 5, 22);
        Checks.fault("ring 2;", 5, 5);
        Checks.fault("begins 24;", 5, 7);
        Checks.fault("begins 23; seed 9999; ring 1; cold 0 99;", 6, 40);
        Checks.fault("cold 0 1; sleeper a 1 0; cold 1 1;  ", 6, 36);
        Checks.fault("cold 1 1; sleeper a 1 0; sleeper b 0 0;", 0, -1);
        Checks.fault("cold 8 1; ring 2;", 5, 15);
        Checks.fault("cold 8 1; sleeper ab 1 1; sleeper abc 1 1; sleeper ab 1 1;", 3, 51);
    }

    /** One object reads many texts: nothing of one stays for the next. */
    private static void oneAfterTheOther() {
        Checks.about("one after the other");
        PartedSide x = new PartedSide();
        String nine = "";
        for (int i = 0; i < 9; i++) {
            nine += "sleeper " + (char) ('a' + i) + " 1 0;cold " + i + " 9;";
        }
        String[] texts = {nine, nine + "cold 0 1;", nine, "sleeper a 2 0;", "sleeper a 1 0;", "sleeper a 1 0; sleeper a 1 0;",
            "cold 1 1;", "", "sleeper b 0 0;", "lies = if 1 < 2 then", "sleeper a 1 1; cold 0 1;", "sleeper a 1 1; ring 1; lies = 1; seed 7;",
            "sleeper a 0 1; chills = 95;"};
        int[] faults = {0, 2, 0, 5, 0, 3, 6, 0, 0, 1, 0, 0, 0};
        int[] places = {-1, nine.length(), -1, 10, -1, 23, 9, -1, -1, 20, -1, -1, -1};
        for (int i = 0; i < texts.length; i++) {
            Checks.feed(x, texts[i]);
            Checks.due("read() " + i, x.read(), faults[i]);
            Checks.due("place() " + i, x.place(), places[i]);
        }
        Checks.due("sleeper(0, 3)", x.sleeper(0, 3), 0);
        Checks.due("sleeper(0, 5)", x.sleeper(0, 5), 0);
        Checks.due("count(13)", x.count(13), 0);
        Checks.due("count(6)", x.count(6), 0);
        // LOT 100 of seed 0 at the hour 0 for the bed 0 is 90, of the hour 24 44; of seed 7 it is 94 and 99
        Checks.due("then(0, 1, 0), chilled", x.then(0, 1, 0), 1);
        x.hours(24);
        Checks.due("count(15)", x.count(15), 24);
        Checks.due("chilled in the next hour, as by seed 0", x.then(0, 1, 0) != x.count(3), true);
    }

    private static void promise5() {
        Checks.about("promise 5");
        PartedSide x = new PartedSide();
        Checks.feed(x, "ring 1; ring;");
        Checks.due("place() before read()", x.place(), -1);
        Checks.due("read()", x.read(), 1);
        Checks.due("place()", x.place(), 12);
        Checks.due("place() again", x.place(), 12);
        x.hours(3);
        Checks.feed(x, "ring 1;");
        Checks.due("place()", x.place(), 12);
        Checks.due("read()", x.read(), 0);
        Checks.due("place()", x.place(), -1);
    }
}
