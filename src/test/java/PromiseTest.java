/** Each promise by itself: ordinary inputs, the edges that the document names, and wrong inputs. */
public final class PromiseTest {
    private static final int BAD = -1, FULL = -3, NONE = -9;
    private static final long NO = -1000000000000000000L;
    private static final String TWO_GATES = "gate B most 10;gate A most 7;"
        + "wish 5 part 8 A 2 B 3;wish 4 part 6 B 1 A 1;wish 3 part 4 A 1;";
    private static final String KINDS = "gate A most 11;gate B most 9;"
        + "wish 7 whole 5 A 3 B 2;wish 6 whole 6 A 2 B 3;wish 9 all 2 A 4;";
    private static int wrong = 0;
    private static int calls = 0;
    private static int promise = 0;

    public static void main(String[] args) {
        newObject();
        type();
        clear();
        table();
        tableFaults();
        gate();
        wish();
        uses();
        jam();
        off();
        best();
        bestTies();
        worth();
        gap();
        more();
        clash();
        tell();
        check();
        reach();
        fair();
        lie();
        core();
        labour();
        count();
        trace();
        System.out.println(calls + " answers looked at, " + wrong + " wrong");
        if (wrong != 0) System.exit(1);
    }

    private static void due(String call, long got, long want) {
        calls++;
        if (got == want) return;
        wrong++;
        System.out.println("promise " + promise + ": " + call + " answered " + got + ", due is " + want);
    }

    private static void enter(DawnTable t, String text) {
        for (int i = 0; i < text.length(); i++) t.type(text.charAt(i), 1);
    }

    private static DawnTable read(String text) {
        DawnTable t = new DawnTable();
        enter(t, text);
        int items = 0;
        for (int i = 0; i < text.length(); i++) if (text.charAt(i) == ';') items++;
        due("table() of " + text, t.table(), items);
        return t;
    }

    private static void fraction(String call, long up, long low, long wantUp, long wantLow) {
        due(call + ", upper", up, wantUp);
        due(call + ", lower", low, wantLow);
    }

    private static void newObject() {
        promise = 1;
        DawnTable t = new DawnTable();
        for (int what = 0; what <= 4; what++) due("count " + what, t.count(what), 0);
        due("gate", t.gate(0, 0), BAD);
        due("wish", t.wish(0, 0), BAD);
        due("trace", t.trace(), 0);
        fraction("worth", t.worth(0, 0), t.worth(0, 1), 0, 1);
        fraction("loose worth", t.worth(1, 0), t.worth(1, 1), 0, 1);
        fraction("gap", t.gap(0), t.gap(1), 0, 1);
        due("clash", t.clash(0), NONE);
        due("check", t.check(), 0);
        due("core", t.core(), 0);
        due("labour", t.labour(0), 1);
        due("reach", t.reach(0), BAD);
        due("lie", t.lie(0), BAD);
        due("fair", t.fair(0, 0), NO);
    }

    private static void type() {
        promise = 2;
        DawnTable t = new DawnTable();
        due("type 9", t.type(0, 9), BAD);
        due("type 0", t.type(0, 0), BAD);
        due("type -1", t.type(0, -1), BAD);
        due("type least int", t.type(0, Integer.MIN_VALUE), BAD);
        due("type ;", t.type(0x3bL, 1), 1);
        due("lowest bytes alone", t.type(0x7777_7777_2020_2020L, 4), 5);
        due("table", t.table(), -10);
        t.clear();
        // "gate A m" "ost 5;": the highest of the bytes comes first
        due("type", t.type(0x6761746520_41206dL, 8), 8);
        due("type", t.type(0x6f737420_353bL, 6), 14);
        due("table", t.table(), 1);
        due("N", t.gate(0, 2), 5);
        for (int i = 1; i <= 37; i++) due("type 8", t.type(0x2020202020202020L, 8), 8 * i);
        due("FULL at 296", t.type(0x2020202020202020L, 8), FULL);
        due("FULL at 296", t.type(0x2020202020202020L, 5), FULL);
        due("up to 300", t.type(0x20202020L, 4), 300);
        due("FULL at 300", t.type(0x20L, 1), FULL);
        due("BAD ahead of FULL", t.type(0x20L, 9), BAD);
        due("count 4", t.count(4), 300);
        due("table of blanks", t.table(), 0);
    }

    private static void clear() {
        promise = 3;
        DawnTable t = read(TWO_GATES);
        due("clear", t.clear(), 0);
        enter(t, "gate");
        due("clear", t.clear(), 4);
        due("count", t.count(4), 0);
        due("clear", t.clear(), 0);
        due("THE TABLE stays", t.count(0), 2);
    }

    private static void table() {
        promise = 4;
        DawnTable t = read(TWO_GATES);
        due("text is empty", t.count(4), 0);
        t.off(0, 0, 1);
        t.off(1, 1, 1);
        t.jam(1, 99);
        t.tell(0, 0, -1, 1);
        enter(t, "gate C most 1;x");
        due("fault", t.table(), -24);
        due("nothing changes", t.count(0), 2);
        due("nothing changes", t.count(2), 1);
        due("nothing changes", t.gate(1, 2), 99);
        due("nothing changes", t.check(), 1);
        due("the text stays", t.clear(), 15);
        enter(t, TWO_GATES);
        due("table", t.table(), 5);
        due("nothing is OFF", t.count(2) + t.count(3), 0);
        due("N is anew", t.gate(1, 2), 10);
        due("TOLD is anew", t.check(), 4);
        due("empty text", t.table(), 0);
        due("no gates", t.count(0), 0);
        due("no wishes", t.count(1), 0);
        t = read("   gate  A   most 5 ;  wish 0 all 1   A 1  ;   ");
        due("blanks between tokens", t.uses(0, 0), 1);
        t = read("gateAmost5;wish7part3A2;");
        due("no blanks between tokens", t.uses(0, 0), 2);
        t = read("gate E most 0;gate D most 99;gate C least 0;gate B least 99;gate A most 1;"
            + "wish 99 part 12 A 9 B 9 C 9 D 9 E 9;wish 0 whole 1;wish 1 all 2;wish 2 all 3 E 1;");
        due("all there may be", t.count(0) * 10 + t.count(1), 54);
    }

    private static void fault(String text, int place) {
        DawnTable t = new DawnTable();
        enter(t, text);
        due("FAULT of [" + text + "]", t.table(), -10 - place);
        due("the text stays", t.clear(), text.length());
    }

    private static void tableFaults() {
        promise = 4;
        fault("gate", 4);
        fault("gate   ", 7);
        fault("gate A most 5", 13);
        fault("wish 5 part 3 ", 14);
        fault("gate A most 5;wish 5 part 3 A", 29);
        fault("gate A most 5;gate A least 5;", 19);
        fault("gate F most 5;", 5);
        fault("gate a most 5;", 5);
        fault("gate 5 most 5;", 5);
        fault("gate A whole 5;", 7);
        fault("gate A most 100;", 12);
        fault("gate A most 1000;", 12);
        fault("gate A most 05;", 12);
        fault("gate A most 00;", 12);
        fault("gate A most -1;", 12);
        fault("gate A most 99999999999999999999999;", 12);
        fault("gate A most 5 5;", 14);
        fault("gate AB most 5;", 6);
        fault("wish 5 part 0;", 12);
        fault("wish 5 part 13;", 12);
        fault("wish 100 part 1;", 5);
        fault("wish 5 most 1;", 7);
        fault("wish 5 parts 1;", 7);
        fault("wish 5 wholeall 1;", 7);
        fault("wish A part 1;", 5);
        fault("wish 5 part 1 A 1;gate A most 1;", 14);
        fault("gate A most 1;wish 5 part 1 A 0;", 30);
        fault("gate A most 1;wish 5 part 1 A 10;", 30);
        fault("gate A most 1;wish 5 part 1 A A;", 30);
        fault("gate A most 1;wish 5 part 1 A 1 A 2;", 32);
        fault("gate A most 1;wish 5 part 1 A;", 29);
        fault("gate A most 1;wish 5 part 1 5;", 28);
        fault("wish 1 all 1;wish 1 all 1;wish 1 all 1;wish 1 all 1;wish 1 all 1;", 52);
        fault(";", 0);
        fault("gate A most 1;;", 14);
        fault(" part 1;", 1);
        fault("gate\tA most 1;", 4);
        fault("gate A most 1;\n", 14);
        fault("gates A most 1;", 0);
        fault("gatez A most 1;", 0);
        fault("hate A most 1;", 0);
        fault("gat A most 1;", 0);
        fault("dish 1 all 1;", 0);
        fault("gate A lost 1;", 7);
        fault("gate A leasz 1;", 7);
        fault("Gate A most 1;", 0);
        fault("\u00e7", 0);
        fault("part 1 #", 0);
        fault("gate A gate #", 7);
        DawnTable t = read("wish 1 all 1;wish 1 all 1;wish 1 all 1;wish 1 all 1;gate A most 1;");
        due("a gate after 4 wishes", t.count(0), 1);
    }

    private static void gate() {
        promise = 5;
        DawnTable t = read("gate D least 8;gate B most 99;wish 1 all 1;");
        due("letter", t.gate(0, 0), 1);
        due("least", t.gate(0, 1), 0);
        due("N", t.gate(0, 2), 99);
        due("OFF", t.gate(0, 3), 0);
        due("letter", t.gate(1, 0), 3);
        due("least", t.gate(1, 1), 1);
        due("N", t.gate(1, 2), 8);
        t.off(0, 1, 1);
        due("OFF", t.gate(1, 3), 1);
        due("OFF", t.gate(0, 3), 0);
        due("no such gate", t.gate(2, 0), BAD);
        due("no such gate", t.gate(-1, 0), BAD);
        due("what", t.gate(0, 4), BAD);
        due("what", t.gate(0, -1), BAD);
    }

    private static void wish() {
        promise = 6;
        DawnTable t = read(KINDS + "wish 0 part 12;");
        int[][] want = {{7, 1, 5, 0}, {6, 1, 6, 0}, {9, 2, 2, 0}, {0, 0, 12, 0}};
        for (int w = 0; w < 4; w++) {
            for (int what = 0; what < 4; what++) due("wish " + w + " " + what, t.wish(w, what), want[w][what]);
        }
        t.off(1, 2, 1);
        due("OFF", t.wish(2, 3), 1);
        due("no such wish", t.wish(4, 0), BAD);
        due("no such wish", t.wish(-1, 0), BAD);
        due("what", t.wish(0, 4), BAD);
        due("what", t.wish(0, -1), BAD);
    }

    private static void uses() {
        promise = 7;
        DawnTable t = read(TWO_GATES);
        int[][] want = {{2, 3}, {1, 1}, {1, 0}};
        for (int w = 0; w < 3; w++) {
            for (int g = 0; g < 2; g++) due("uses " + w + " " + g, t.uses(w, g), want[w][g]);
        }
        due("no such wish", t.uses(3, 0), BAD);
        due("no such gate", t.uses(0, 2), BAD);
        due("no such wish", t.uses(-1, 0), BAD);
        due("no such gate", t.uses(0, -1), BAD);
        t = read("gate E most 9;wish 1 all 1 E 4;gate A most 9;wish 1 all 1 A 3;");
        due("a gate told later", t.uses(0, 0), 0);
        due("a letter's gate", t.uses(0, 1), 4);
        due("a gate told later", t.uses(1, 0), 3);
        due("none", t.uses(1, 1), 0);
    }

    private static void jam() {
        promise = 8;
        DawnTable t = read(TWO_GATES);
        due("jam", t.jam(1, 0), 10);
        due("N", t.gate(1, 2), 0);
        due("worth", t.worth(0, 0), 12);
        due("jam", t.jam(1, 99), 0);
        due("jam", t.jam(1, 100), BAD);
        due("jam", t.jam(1, -1), BAD);
        due("jam", t.jam(2, 1), BAD);
        due("jam", t.jam(-1, 1), BAD);
        due("N", t.gate(1, 2), 99);
        due("worth", t.worth(0, 0), 27);
    }

    private static void off() {
        promise = 9;
        DawnTable t = read(KINDS);
        due("off", t.off(0, 0, 1), 0);
        due("off again", t.off(0, 0, 1), 1);
        fraction("worth", t.worth(0, 0), t.worth(0, 1), 46, 1);
        due("on", t.off(0, 0, 0), 1);
        due("off", t.off(1, 0, 1), 0);
        due("worth without wish 0", t.worth(0, 0), 24);
        due("on", t.off(1, 0, 0), 1);
        due("worth", t.worth(0, 0), 27);
        due("what", t.off(2, 0, 0), BAD);
        due("what", t.off(-1, 0, 0), BAD);
        due("no gate", t.off(0, 2, 0), BAD);
        due("no wish", t.off(1, 3, 0), BAD);
        due("off", t.off(1, 0, 2), BAD);
        due("off", t.off(1, 0, -1), BAD);
        due("nothing is OFF", t.count(2) + t.count(3), 0);
    }

    private static void best() {
        promise = 10;
        DawnTable t = read(KINDS);
        long[] tight = {3, 1, 0};
        long[][] loose = {{0, 1}, {3, 1}, {5, 4}};
        for (int w = 0; w < 3; w++) {
            fraction("best " + w, t.best(w, 0, 0), t.best(w, 0, 1), tight[w], 1);
            fraction("loose " + w, t.best(w, 1, 0), t.best(w, 1, 1), loose[w][0], loose[w][1]);
        }
        due("no wish", t.best(3, 0, 0), NO);
        due("no wish", t.best(-1, 0, 0), NO);
        due("loose", t.best(0, 2, 0), NO);
        due("loose", t.best(0, -1, 0), NO);
        due("what", t.best(0, 0, 2), NO);
        due("what", t.best(0, 0, -1), NO);
        t.off(1, 0, 1);
        fraction("OFF", t.best(0, 0, 0), t.best(0, 0, 1), 0, 1);
        t = read("gate A least 9;wish 5 part 4 A 2;");
        due("NONE", t.best(0, 0, 0), NO);
        due("NONE", t.best(0, 1, 0), NO);
        t = read("gate A least 7;wish 5 all 4 A 2;");
        due("all", t.best(0, 0, 0), 4);
        t = read("gate A most 7;wish 5 all 4 A 2;");
        due("none", t.best(0, 0, 0), 0);
        fraction("parts", t.best(0, 1, 0), t.best(0, 1, 1), 7, 2);
        t = read("gate A least 5;gate B most 5;wish 5 whole 4 A 2 B 2;");
        due("no whole x holds", t.best(0, 0, 0), NO);
        fraction("a part does", t.best(0, 1, 0), t.best(0, 1, 1), 5, 2);
    }

    private static void bestTies() {
        promise = 10;
        DawnTable t = read("gate A most 5;wish 3 part 4 A 1;wish 3 part 4 A 1;wish 0 part 9;");
        due("least x of wish 0", t.best(0, 0, 0), 1);
        due("then of 1", t.best(1, 0, 0), 4);
        due("worth nothing", t.best(2, 0, 0), 0);
        t = read("gate A least 3;wish 0 part 4 A 2;wish 0 whole 4 A 2;");
        due("least x of wish 0", t.best(0, 0, 0), 0);
        due("whole", t.best(1, 0, 0), 2);
        fraction("loose", t.best(1, 1, 0), t.best(1, 1, 1), 3, 2);
        t = read("gate A most 99;wish 2 whole 12 A 2;wish 4 whole 12 A 4;wish 6 whole 12 A 6;wish 8 whole 12 A 8;");
        // the whole of the order is needed on the way there: worths of 0, and two gates that lift x of wish 0 alike
        DawnTable zero = read("gate A least 5;gate B least 10;gate C most 21;"
            + "wish 0 part 9 A 1 B 2 C 3;wish 0 part 12 B 1 C 3;");
        due("least x of wish 0", zero.best(0, 0, 0), 5);
        due("then of 1", zero.best(1, 0, 0), 0);
        long[] want = {0, 0, 3, 10};
        for (int w = 0; w < 4; w++) due("of very many the first, wish " + w, t.best(w, 0, 0), want[w]);
    }

    private static void worth() {
        promise = 11;
        DawnTable t = read(KINDS);
        fraction("worth", t.worth(0, 0), t.worth(0, 1), 27, 1);
        fraction("loose worth", t.worth(1, 0), t.worth(1, 1), 117, 4);
        due("loose", t.worth(2, 0), NO);
        due("loose", t.worth(-1, 0), NO);
        due("what", t.worth(0, 2), NO);
        due("what", t.worth(0, -1), NO);
        t = read("gate A least 1;");
        due("NONE", t.worth(0, 0), NO);
        due("NONE", t.worth(1, 1), NO);
        t = read("wish 99 part 12;wish 99 part 12;wish 99 all 12;wish 99 whole 12;");
        due("the most", t.worth(0, 0), 4 * 99 * 12);
    }

    private static void gap() {
        promise = 12;
        DawnTable t = read(KINDS);
        fraction("gap", t.gap(0), t.gap(1), 9, 4);
        due("what", t.gap(2), NO);
        due("what", t.gap(-1), NO);
        t = read(TWO_GATES);
        fraction("no gap", t.gap(0), t.gap(1), 0, 1);
        t = read("gate A least 5;gate B most 5;wish 5 whole 4 A 2 B 2;");
        due("BEST is NONE, LOOSE is not", t.gap(0), NO);
    }

    private static void more() {
        promise = 13;
        DawnTable t = read(TWO_GATES);
        fraction("more", t.more(0, 0), t.more(0, 1), 3, 1);
        fraction("more", t.more(1, 0), t.more(1, 1), 0, 1);
        due("N stays", t.gate(0, 2), 7);
        fraction("worth stays", t.worth(1, 0), t.worth(1, 1), 27, 1);
        due("no gate", t.more(2, 0), NO);
        due("no gate", t.more(-1, 0), NO);
        due("what", t.more(0, 2), NO);
        t.off(0, 0, 1);
        due("OFF", t.more(0, 0), NO);
        t = read("gate A least 4;gate B most 4;wish 3 part 4 B 1;wish 1 part 4 A 1 B 1;");
        due("none HOLDS with it", t.more(0, 0), NO);
        t.jam(0, 3);
        fraction("below 0", t.more(0, 0), t.more(0, 1), -2, 1);
        t.jam(0, 5);
        due("none HOLDS without", t.more(1, 0), NO);
        t = read("gate A most 99;wish 7 part 12 A 9;");
        fraction("past 99", t.more(0, 0), t.more(0, 1), 7, 9);
        t = read("gate A most 7;wish 7 whole 12 A 2;");
        fraction("LOOSE, not BEST", t.more(0, 0), t.more(0, 1), 7, 2);
    }

    private static void clash() {
        promise = 14;
        DawnTable t = read("gate A least 9;gate C most 4;gate E least 1;wish 1 part 9 A 1 C 1;wish 1 part 1 E 1;");
        due("how many", t.clash(0), 2);
        due("the set", t.clash(1), 3);
        due("what", t.clash(2), BAD);
        due("what", t.clash(-1), BAD);
        t.off(1, 1, 1);
        due("a wish that is OFF", t.clash(0), 1);
        due("bits by gates", t.clash(1), 4);
        t.off(0, 2, 1);
        due("a gate that is OFF", t.clash(1), 3);
        t.off(0, 0, 1);
        due("NONE", t.clash(0), NONE);
        due("NONE", t.clash(1), NONE);
        t = read("gate A least 5;gate B most 5;wish 5 whole 4 A 2 B 2;");
        due("parts hold", t.clash(0), NONE);
        t = read("gate A most 4;gate B least 9;gate C most 3;gate D least 8;wish 1 part 9 A 1 B 1;wish 1 part 9 C 1 D 1;");
        due("the least set", t.clash(1), 3);
        t = read("gate A most 5;gate B most 5;gate C least 11;wish 1 part 9 A 1 C 1;wish 1 part 9 B 1 C 1;");
        due("all three", t.clash(0), 3);
        due("all three", t.clash(1), 7);
        t = read("gate A most 1;gate B most 1;gate C most 1;gate D most 1;gate E least 5;"
            + "wish 1 all 9 A 1 E 1;wish 1 all 9 B 1 E 1;wish 1 all 9 C 1 E 1;wish 1 all 9 D 1 E 1;");
        due("all five", t.clash(0), 5);
        due("all five", t.clash(1), 31);
    }

    private static void tell() {
        promise = 15;
        DawnTable t = read(TWO_GATES);
        due("tell", t.tell(0, 2, 999, 12), 1);
        due("check", t.check(), 1);
        due("tell", t.tell(0, 2, 0, 1), 1);
        due("tell", t.tell(1, 1, -999, 12), 1);
        due("check", t.check(), 3);
        due("what", t.tell(2, 0, 1, 1), BAD);
        due("what", t.tell(-1, 0, 1, 1), BAD);
        due("no wish", t.tell(0, 3, 1, 1), BAD);
        due("no wish", t.tell(0, -1, 1, 1), BAD);
        due("no gate", t.tell(1, 2, 1, 1), BAD);
        due("up", t.tell(0, 0, 1000, 1), BAD);
        due("up", t.tell(0, 0, -1000, 1), BAD);
        due("down", t.tell(0, 0, 1, 13), BAD);
        due("down", t.tell(0, 0, 1, 0), BAD);
        due("down", t.tell(0, 0, 1, -1), BAD);
        due("check", t.check(), 3);
    }

    private static void check() {
        promise = 16;
        DawnTable t = read(TWO_GATES);
        due("nothing told", t.check(), 4);
        t.tell(0, 1, 12, 2);
        t.tell(0, 2, 7, 7);
        t.tell(1, 0, 3, 1);
        due("proved", t.check(), 0);
        t.tell(1, 0, 19, 6);
        due("a price above", t.check(), 4);
        t.tell(1, 1, -1, 12);
        due("a price below 0", t.check(), 3);
        t.tell(0, 2, 13, 12);
        due("a gate does not hold", t.check(), 2);
        t.off(0, 0, 1);
        due("it is OFF", t.check(), 3);
        t.tell(0, 1, 73, 12);
        due("above M", t.check(), 1);
        t.tell(0, 1, 6, 1);
        t.off(1, 1, 1);
        due("OFF and not 0", t.check(), 1);
        t.tell(0, 1, 0, 1);
        t.tell(0, 2, 4, 1);
        t.tell(0, 0, 10, 3);
        t.tell(1, 0, 1, 1);
        t.tell(1, 1, 5, 3);
        due("PRICE of one that is OFF", t.check(), 3);
        t.tell(1, 0, 0, 1);
        due("proved in parts, one OFF", t.check(), 0);
        t = read("gate A least 4;gate B most 8;wish 3 all 8 B 1;wish 1 all 8 A 1 B 1;");
        due("least does not hold", t.check(), 2);
        t.tell(0, 0, 4, 1);
        t.tell(0, 1, 4, 1);
        t.tell(1, 1, 3, 1);
        t.tell(1, 0, 2, 1);
        due("a price of least above 0", t.check(), 3);
        t.tell(1, 0, -2, 1);
        due("proved, KINDS not looked at", t.check(), 0);
    }

    private static void reach() {
        promise = 17;
        DawnTable t = read(KINDS);
        due("reach", t.reach(0), NONE);
        due("reach", t.reach(1), 5);
        due("reach", t.reach(2), 2);
        due("no wish", t.reach(3), BAD);
        due("no wish", t.reach(-1), BAD);
        t.off(1, 2, 1);
        due("OFF", t.reach(2), NONE);
        t = read("gate A least 1;wish 1 part 1;");
        due("no BEST", t.reach(0), NONE);
        t = read("gate A most 1;wish 0 part 1 A 1;wish 98 part 1 A 1;");
        due("99 at most", t.reach(0), 99);
        t = read("gate A most 1;wish 0 part 1 A 1;wish 99 part 1 A 1;");
        due("past 99", t.reach(0), NONE);
        t = read("wish 0 part 1;");
        due("1 at least", t.reach(0), 1);
    }

    private static void fair() {
        promise = 18;
        DawnTable t = read(TWO_GATES);
        fraction("fair", t.fair(0, 0), t.fair(0, 1), 0, 1);
        fraction("fair", t.fair(1, 0), t.fair(1, 1), 33, 2);
        due("no wish", t.fair(3, 0), NO);
        due("no wish", t.fair(-1, 0), NO);
        due("what", t.fair(0, 2), NO);
        due("what", t.fair(0, -1), NO);
        t.off(1, 1, 1);
        fraction("OFF", t.fair(1, 0), t.fair(1, 1), 0, 1);
        t = read("gate A least 4;wish 5 part 4 A 1;wish 2 part 3 A 1;");
        due("none without it", t.fair(0, 0), NO);
        t.off(1, 1, 1);
        t.off(1, 0, 1);
        due("no BEST, and OFF", t.fair(0, 0), NO);
        t = read("gate A least 4;gate B most 6;wish 0 part 4 A 1;wish 3 part 6 A 1 B 1;wish 5 part 6 B 1;");
        fraction("below 0", t.fair(0, 0), t.fair(0, 1), -8, 1);
    }

    private static void lie() {
        promise = 19;
        DawnTable t = read(TWO_GATES);
        due("lie", t.lie(0), 0);
        due("lie", t.lie(1), 3);
        t = read(KINDS);
        due("lie", t.lie(1), 5);
        due("no wish", t.lie(3), BAD);
        due("no wish", t.lie(-1), BAD);
        t.off(1, 1, 1);
        due("OFF", t.lie(1), NONE);
        t = read("gate A least 1;wish 1 part 1;");
        due("no BEST", t.lie(0), NONE);
        t = read("gate A most 1;wish 99 part 1 A 1;wish 97 part 1 A 1;wish 0 part 1;");
        due("just below", t.lie(0), 98);
        due("the truth gains nothing", t.lie(1), 0);
        due("worth 0", t.lie(2), 0);
        t = read("wish 99 part 1;");
        due("one is enough", t.lie(0), 1);
        t = read("gate A most 1;wish 9 part 1 A 1;wish 4 part 1 A 1;");
        due("a tie goes to the other", t.lie(0), 5);
        t = read("gate A most 1;wish 4 part 1 A 1;wish 9 part 1 A 1;");
        due("a tie goes to it", t.lie(1), 4);
    }

    private static void core() {
        promise = 20;
        DawnTable t = read(TWO_GATES);
        due("core", t.core(), 6);
        t.off(1, 2, 1);
        due("one is OFF", t.core(), 3);
        t = read("gate A least 4;wish 0 part 4 A 1;wish 0 part 3 A 1;");
        due("none HOLDS without it", t.core(), 1);
        t.jam(0, 8);
        due("NONE: no BEST", t.core(), NONE);
        t.jam(0, 0);
        due("nothing is worth a thing", t.core(), 0);
    }

    private static void labour() {
        promise = 21;
        DawnTable t = read(KINDS);
        due("TABLE", t.labour(0), 6);
        due("NET", t.labour(1), 5);
        due("WHOLE", t.labour(2), 12);
        due("CUT", t.labour(3), 47);
        due("CHANGED", t.labour(4), 6);
        t.off(0, 0, 1);
        t.off(1, 0, 1);
        t.off(1, 2, 1);
        due("CHANGED", t.labour(4), 9);
        due("WHOLE looks at those that are OFF too", t.labour(2), 12);
        due("NET looks at gates that are OFF too", t.labour(1), 5);
        due("kind", t.labour(5), BAD);
        due("kind", t.labour(-1), BAD);
        t = read("wish 1 part 1;wish 1 part 1;");
        due("NET of none", t.labour(1), 1);
    }

    private static void count() {
        promise = 22;
        DawnTable t = read(TWO_GATES);
        enter(t, "gate ");
        t.off(0, 1, 1);
        t.off(1, 0, 1);
        t.off(1, 2, 1);
        int[] want = {2, 3, 1, 2, 5};
        for (int what = 0; what < 5; what++) due("count " + what, t.count(what), want[what]);
        due("what", t.count(5), BAD);
        due("what", t.count(-1), BAD);
    }

    private static void trace() {
        promise = 23;
        DawnTable t = read(KINDS);
        due("trace", t.trace(), 0);
        int[] adds = {1, 11, 101, 1101, 10001};
        long sum = 0;
        for (int kind = 0; kind < 5; kind++) {
            t.labour(kind);
            sum += adds[kind];
            due("trace after " + kind, t.trace(), sum);
        }
        t.labour(5);
        due("BAD leaves it", t.trace(), sum);
        enter(t, TWO_GATES);
        t.table();
        due("a new table leaves it", t.trace(), sum);
    }
}
