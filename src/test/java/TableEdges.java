/** Promises 5 to 9: what a table's gates and wishes are, and what may become of them. */
final class TableEdges extends Sentence {
    private static final String FULL_TABLE = "gate E most 99;gate D least 0;gate C most 1;gate B least 98;gate A most 0;"
        + "wish 0 part 12 A 1 E 9;wish 99 whole 1 B 2;wish 50 all 7;wish 1 part 2 A 5 B 6 C 7 D 8 E 9;";
    private static final int[][] GATES = {{0, 0, 0}, {1, 1, 98}, {2, 0, 1}, {3, 1, 0}, {4, 0, 99}};
    private static final int[][] WISHES = {{0, 0, 12}, {99, 1, 1}, {50, 2, 7}, {1, 0, 2}};
    private static final int[][] USES = {{1, 0, 0, 0, 9}, {0, 2, 0, 0, 0}, {0, 0, 0, 0, 0}, {5, 6, 7, 8, 9}};

    static void run() {
        gate();
        wish();
        uses();
        jam();
        jamOfOneThatIsOff();
        off();
        offOnceMore();
    }

    private static void gate() {
        of(5, "Of a gate: 0 its letter (0 .. 4), 1 whether it is least, 2 N, 3 whether it is OFF. BAD.");
        DawnTable t = read(FULL_TABLE);
        for (int g = 0; g < 5; g++) {
            for (int what = 0; what < 3; what++) due("gate(" + g + ", " + what + ")", t.gate(g, what), GATES[g][what]);
            due("gate(" + g + ", 3)", t.gate(g, 3), 0);
            due("gate(" + g + ", 4)", t.gate(g, 4), BAD);
            due("gate(" + g + ", -1)", t.gate(g, -1), BAD);
            for (int far : FAR) due("gate(" + g + ", " + far + ")", t.gate(g, far), BAD);
        }
        for (int what = -1; what <= 4; what++) {
            due("gate(5, " + what + ")", t.gate(5, what), BAD);
            due("gate(-1, " + what + ")", t.gate(-1, what), BAD);
            for (int far : FAR) due("gate(" + far + ", " + what + ")", t.gate(far, what), BAD);
        }
        for (int g = 0; g < 5; g++) {
            t.off(0, g, 1);
            for (int i = 0; i < 5; i++) due("gate(" + i + ", 3)", t.gate(i, 3), i <= g ? 1 : 0);
        }
        t = read("gate C most 5;");
        due("the one gate", t.gate(0, 0), 2);
        due("gate(1, 0)", t.gate(1, 0), BAD);
        due("gate(2, 0), by its letter", t.gate(2, 0), BAD);
    }

    private static void wish() {
        of(6, "Of a wish: 0 WORTH, 1 KIND (0 part, 1 whole, 2 all), 2 M, 3 whether it is OFF. BAD.");
        DawnTable t = read(FULL_TABLE);
        for (int w = 0; w < 4; w++) {
            for (int what = 0; what < 3; what++) due("wish(" + w + ", " + what + ")", t.wish(w, what), WISHES[w][what]);
            due("wish(" + w + ", 3)", t.wish(w, 3), 0);
            due("wish(" + w + ", 4)", t.wish(w, 4), BAD);
            due("wish(" + w + ", -1)", t.wish(w, -1), BAD);
            for (int far : FAR) due("wish(" + w + ", " + far + ")", t.wish(w, far), BAD);
        }
        for (int what = -1; what <= 4; what++) {
            due("wish(4, " + what + ")", t.wish(4, what), BAD);
            due("wish(-1, " + what + ")", t.wish(-1, what), BAD);
            for (int far : FAR) due("wish(" + far + ", " + what + ")", t.wish(far, what), BAD);
        }
        for (int w = 0; w < 4; w++) {
            t.off(1, w, 1);
            for (int i = 0; i < 4; i++) due("wish(" + i + ", 3)", t.wish(i, 3), i <= w ? 1 : 0);
        }
        t = read("wish 5 part 6;");
        due("wish(1, 0) of one wish", t.wish(1, 0), BAD);
    }

    private static void uses() {
        of(7, "USES of a wish at a gate (0: none). BAD.");
        DawnTable t = read(FULL_TABLE);
        for (int w = 0; w < 4; w++) {
            for (int g = 0; g < 5; g++) due("uses(" + w + ", " + g + ")", t.uses(w, g), USES[w][g]);
            due("uses(" + w + ", 5)", t.uses(w, 5), BAD);
            due("uses(" + w + ", -1)", t.uses(w, -1), BAD);
            for (int far : FAR) due("uses(" + w + ", " + far + ")", t.uses(w, far), BAD);
        }
        for (int g = -1; g <= 5; g++) {
            due("uses(4, " + g + ")", t.uses(4, g), BAD);
            due("uses(-1, " + g + ")", t.uses(-1, g), BAD);
            for (int far : FAR) due("uses(" + far + ", " + g + ")", t.uses(far, g), BAD);
        }
        t.off(0, 0, 1);
        t.off(1, 0, 1);
        due("of a gate and a wish that are OFF", t.uses(0, 0), 1);
        due("gates alone", read("gate A most 5;").uses(0, 0), BAD);
        due("wishes alone", read("wish 5 part 6;").uses(0, 0), BAD);
        t = read("gate E most 1;wish 1 all 1 E 4;gate A most 1;wish 1 all 1 A 3;");
        due("a letter told later comes ahead", t.uses(0, 0), 0);
        due("its own use moves on", t.uses(0, 1), 4);
        due("the later one's", t.uses(1, 0), 3);
        due("the later one's", t.uses(1, 1), 0);
    }

    private static void jam() {
        of(8, "N of a gate becomes v: what it was. BAD.");
        of(8, "N of a gate may become another one (0 .. 99): it JAMS.");
        DawnTable t = read(FULL_TABLE);
        for (int g = 0; g < 5; g++) {
            int was = GATES[g][2];
            due("jam(" + g + ", 0)", t.jam(g, 0), was);
            due("jam(" + g + ", 99)", t.jam(g, 99), 0);
            due("jam(" + g + ", 99) again", t.jam(g, 99), 99);
            due("jam(" + g + ", 100)", t.jam(g, 100), BAD);
            due("jam(" + g + ", -1)", t.jam(g, -1), BAD);
            for (int far : FAR) due("jam(" + g + ", " + far + ")", t.jam(g, far), BAD);
            due("N", t.gate(g, 2), 99);
            due("jam(" + g + ", 1)", t.jam(g, 1), 99);
            due("N", t.gate(g, 2), 1);
        }
        due("jam(5, 1)", t.jam(5, 1), BAD);
        due("jam(-1, 1)", t.jam(-1, 1), BAD);
        for (int far : FAR) due("jam(" + far + ", 1)", t.jam(far, 1), BAD);
        t = read("gate A most 5;gate B least 3;wish 2 part 12 A 1 B 1;");
        fraction("worth", t.worth(0, 0), t.worth(0, 1), 10, 1);
        t.jam(0, 3);
        fraction("worth once N is 3", t.worth(0, 0), t.worth(0, 1), 6, 1);
        t.jam(0, 2);
        due("worth once N is 2", t.worth(0, 0), NO);
        t.jam(1, 2);
        fraction("worth once both are 2", t.worth(1, 0), t.worth(1, 1), 4, 1);
        t.tell(0, 0, 2, 1);
        t.tell(1, 0, 2, 1);
        due("check()", t.check(), 0);
        t.jam(0, 1);
        due("TOLD stays, the gate holds no more", t.check(), 2);
    }

    private static void jamOfOneThatIsOff() {
        of(8, "N of a gate becomes v: what it was.");
        DawnTable t = read("gate A most 5;wish 2 part 12 A 1;");
        t.off(0, 0, 1);
        due("jam", t.jam(0, 7), 5);
        due("it stays OFF", t.gate(0, 3), 1);
        due("worth", t.worth(0, 0), 24);
        t.off(0, 0, 0);
        due("worth", t.worth(0, 0), 14);
    }

    private static void off() {
        of(9, "A gate (what = 0), a wish (1) is OFF (off = 1), or not (0): what it was. BAD.");
        DawnTable t = read(FULL_TABLE);
        int[] many = {5, 4};
        for (int what = 0; what < 2; what++) {
            for (int i = 0; i < many[what]; i++) {
                String call = "off(" + what + ", " + i + ", ";
                due(call + "0)", t.off(what, i, 0), 0);
                due(call + "1)", t.off(what, i, 1), 0);
                due(call + "1) again", t.off(what, i, 1), 1);
                due(call + "2)", t.off(what, i, 2), BAD);
                due(call + "-1)", t.off(what, i, -1), BAD);
                for (int far : FAR) due(call + far + ")", t.off(what, i, far), BAD);
                due("it is OFF", t.count(2 + what), 1);
                due(call + "0)", t.off(what, i, 0), 1);
                due("none is OFF", t.count(2) + t.count(3), 0);
            }
            for (int off = 0; off < 2; off++) {
                due("off past the last", t.off(what, many[what], off), BAD);
                due("off ahead of the first", t.off(what, -1, off), BAD);
                for (int far : FAR) due("off(" + what + ", " + far + ", " + off + ")", t.off(what, far, off), BAD);
                for (int far : FAR) due("off(" + far + ", 0, " + off + ")", t.off(far, 0, off), BAD);
                due("off(2, 0, ..)", t.off(2, 0, off), BAD);
                due("off(-1, 0, ..)", t.off(-1, 0, off), BAD);
            }
        }
        due("none is OFF", t.count(2) + t.count(3), 0);
        t = read("gate E most 5;");
        due("by its letter", t.off(0, 4, 1), BAD);
        due("no wish", t.off(1, 0, 1), BAD);
        t = read("wish 5 part 6;");
        due("no gate", t.off(0, 0, 1), BAD);
    }

    private static void offOnceMore() {
        of(9, "A gate or a wish may be OFF.");
        DawnTable t = read("gate A most 5;gate B least 3;wish 2 part 12 A 1 B 1;wish 1 part 12 B 1;");
        due("worth", t.worth(0, 0), 22);
        t.off(0, 0, 1);
        due("worth, gate 0 OFF", t.worth(0, 0), 36);
        t.off(1, 0, 1);
        due("worth, wish 0 OFF too", t.worth(0, 0), 12);
        t.off(1, 1, 1);
        due("worth, all wishes OFF", t.worth(0, 0), NO);
        t.off(0, 1, 1);
        fraction("worth, all OFF", t.worth(0, 0), t.worth(0, 1), 0, 1);
        for (int w = 0; w < 2; w++) fraction("x", t.best(w, 0, 0), t.best(w, 0, 1), 0, 1);
        due("check, all OFF", t.check(), 0);
        due("core, all OFF", t.core(), 0);
        t.off(0, 0, 0);
        t.off(1, 0, 0);
        due("worth, first ones not OFF", t.worth(0, 0), 10);
        due("N and USES are as they were", t.gate(0, 2) * 10 + t.uses(0, 0), 51);
    }
}
