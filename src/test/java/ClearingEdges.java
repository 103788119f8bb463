/** Promises 10 to 14: BEST, LOOSE, their WORTH, GAP, MORE and CLASH. */
final class ClearingEdges extends Sentence {
    /** Half of it can be cleared in parts, none of it in whole numbers. */
    private static final String PARTS_ALONE = "gate A least 5;gate B most 5;wish 5 whole 4 A 2 B 2;";

    static void run() {
        amounts();
        kinds();
        gatesHold();
        noGates();
        things();
        ties();
        none();
        terms();
        bestArguments();
        worth();
        gap();
        more();
        moreState();
        moreArguments();
        clash();
        clashLeastSet();
        clashArguments();
    }

    private static void x(DawnTable t, int w, long up, long low) {
        fraction("x of wish " + w + " in BEST", t.best(w, 0, 0), t.best(w, 0, 1), up, low);
    }

    private static void looseX(DawnTable t, int w, long up, long low) {
        fraction("x of wish " + w + " in LOOSE", t.best(w, 1, 0), t.best(w, 1, 1), up, low);
    }

    private static void worthOf(DawnTable t, long up, long low) {
        fraction("worth of BEST", t.worth(0, 0), t.worth(0, 1), up, low);
    }

    private static void looseWorth(DawnTable t, long up, long low) {
        fraction("worth of LOOSE", t.worth(1, 0), t.worth(1, 1), up, low);
    }

    private static void amounts() {
        of(10, "A CLEARING gives each wish some x, 0 .. M");
        for (String kind : new String[] {"part", "whole", "all"}) {
            for (int m = 1; m <= 12; m++) {
                x(read("wish 1 " + kind + " " + m + ";"), 0, m, 1);
                x(read("wish 99 " + kind + " " + m + ";"), 0, m, 1);
                x(read("wish 0 " + kind + " " + m + ";"), 0, 0, 1);
                DawnTable t = read("gate A least " + m + ";wish 0 " + kind + " " + m + " A 1;");
                x(t, 0, m, 1);
                t.jam(0, m + 1);
                due("x above M", t.best(0, 0, 0), NO);
            }
        }
    }

    private static void kinds() {
        of(10, "of part any number, of whole a whole one, of all 0 or M.");
        String[] kinds = {"part", "whole", "all"};
        // most N: x is N / 2, the whole number below it, or 6 where N is 12 at least
        for (int kind = 0; kind < 3; kind++) {
            DawnTable t = read("gate A most 0;wish 7 " + kinds[kind] + " 6 A 2;");
            for (int n = 0; n <= 14; n++) {
                t.jam(0, n);
                int twice = Math.min(n, 12);
                if (kind == 0 && twice % 2 == 1) x(t, 0, twice, 2);
                else x(t, 0, kind == 2 ? n >= 12 ? 6 : 0 : twice / 2, 1);
                looseX(t, 0, twice % 2 == 1 ? twice : twice / 2, twice % 2 == 1 ? 2 : 1);
            }
            // least N: the same from above
            t = read("gate A least 0;wish 0 " + kinds[kind] + " 6 A 2;");
            for (int n = 0; n <= 12; n++) {
                t.jam(0, n);
                if (kind == 0 && n % 2 == 1) x(t, 0, n, 2);
                else x(t, 0, kind == 2 ? n > 0 ? 6 : 0 : (n + 1) / 2, 1);
            }
            t.jam(0, 13);
            due("x above M", t.best(0, 0, 0), NO);
        }
    }

    private static void gatesHold() {
        of(10, "are N at most (most), or at least (least).");
        DawnTable t = read("gate A most 8;gate B least 8;wish 1 part 4 A 1 B 1;wish 2 part 4 A 1 B 1;");
        worthOf(t, 12, 1);
        t.jam(1, 9);
        due("one more at least than at most", t.worth(0, 0), NO);
        t.jam(0, 9);
        due("x can't be more than M", t.worth(0, 0), NO);
        t.jam(1, 7);
        t.jam(0, 7);
        worthOf(t, 11, 1);
        x(t, 0, 3, 1);
        t.jam(0, 0);
        t.jam(1, 0);
        worthOf(t, 0, 1);
        of(10, "USES times x, added over all wishes");
        t = read("gate A most 99;" + times("wish 1 part 12 A 9;", 4));
        worthOf(t, 11, 1);
        t = read("gate A least 99;" + times("wish 0 part 3 A 9;", 4));
        for (int w = 0; w < 4; w++) x(t, w, w == 0 ? 2 : 3, 1);
    }

    private static void noGates() {
        of(10, "It HOLDS, if at each gate (that is not OFF)");
        DawnTable t = read("gate A most 0;gate B least 0;");
        worthOf(t, 0, 1);
        t.jam(1, 1);
        due("least 1, and no wish", t.worth(0, 0), NO);
        t.off(0, 1, 1);
        worthOf(t, 0, 1);
        t = read("wish 1 part 12;wish 0 whole 12;wish 99 all 12;");
        worthOf(t, 1200, 1);
        t = read("gate A least 1;wish 1 part 12;");
        due("a wish that does not use the gate", t.worth(0, 0), NO);
    }

    private static void things() {
        of(10, "(that are not OFF; x of such is 0)");
        DawnTable t = read("gate A most 5;gate B least 4;wish 9 part 12 A 1 B 1;wish 1 part 12 A 1 B 1;");
        x(t, 0, 5, 1);
        t.off(1, 0, 1);
        x(t, 0, 0, 1);
        x(t, 1, 5, 1);
        looseX(t, 0, 0, 1);
        t.off(1, 1, 1);
        due("none is left to hold B", t.best(0, 0, 0), NO);
        t.off(0, 1, 1);
        x(t, 0, 0, 1);
        x(t, 1, 0, 1);
        t.off(1, 0, 0);
        t.off(0, 0, 1);
        x(t, 0, 12, 1);
    }

    private static void ties() {
        of(10, "of several the one with the least x of wish 0, then of 1, and so on.");
        for (String kind : new String[] {"part", "whole"}) {
            String wish = " " + kind + " 3 A 1;";
            DawnTable t = read("gate A most 0;" + times("wish 1" + wish, 4));
            DawnTable least = read("gate A least 0;" + times("wish 0" + wish, 4));
            for (int n = 0; n <= 12; n++) {
                t.jam(0, n);
                least.jam(0, n);
                for (int w = 0; w < 4; w++) {
                    int want = Math.max(0, Math.min(3, n - 3 * (3 - w)));
                    x(t, w, want, 1);
                    x(least, w, want, 1);
                }
            }
        }
        DawnTable t = read("gate A most 3;" + times("wish 5 all 3 A 1;", 4));
        for (int w = 0; w < 4; w++) x(t, w, w == 3 ? 3 : 0, 1);
        t.off(1, 3, 1);
        for (int w = 0; w < 4; w++) x(t, w, w == 2 ? 3 : 0, 1);
        t = read("gate A least 1;wish 0 part 1 A 2;wish 0 part 1 A 3;");
        x(t, 0, 0, 1);
        x(t, 1, 1, 3);
        t = read("gate A least 5;wish 0 part 1 A 3;wish 0 part 1 A 3;wish 0 part 12;");
        x(t, 0, 2, 3);
        x(t, 1, 1, 1);
        x(t, 2, 0, 1);
        // D leaves 3 of wish 1 and none of wish 2, B then needs 3/2 of wish 3, which is worth nothing and could be 4
        t = read("gate A least 9;gate B least 12;gate C most 16;gate D most 9;gate E least 5;wish 0 whole 8 B 4 E 4;"
            + "wish 1 part 7 A 3 B 3 C 3 D 3 E 1;wish 1 whole 7 A 2 B 1 D 4 E 2;wish 0 part 4 B 2 C 1 E 4;");
        x(t, 0, 0, 1);
        x(t, 1, 3, 1);
        x(t, 2, 0, 1);
        x(t, 3, 3, 2);
        // the greater WORTH goes ahead of the least x, be it ever so little greater
        t = read("gate A most 9;wish 9 part 12 A 9;wish 8 part 12 A 8;wish 1 part 12 A 1;");
        x(t, 0, 0, 1);
        x(t, 1, 0, 1);
        x(t, 2, 9, 1);
        t = read("gate A most 9;wish 9 part 12 A 8;wish 8 part 12 A 8;wish 1 part 12 A 1;");
        x(t, 0, 9, 8);
        x(t, 2, 0, 1);
        // the least x of wish 0 goes ahead of that of all others together
        t = read("gate A most 9;wish 1 whole 1 A 1;wish 9 whole 1 A 9;wish 8 whole 1 A 8;");
        x(t, 0, 0, 1);
        x(t, 1, 1, 1);
        x(t, 2, 0, 1);
    }

    private static void none() {
        of(10, "NO: NONE, or BAD.");
        DawnTable t = read(PARTS_ALONE);
        for (int what = 0; what < 2; what++) due("BEST is NONE", t.best(0, 0, what), NO);
        looseX(t, 0, 5, 2);
        t.jam(0, 6);
        for (int loose = 0; loose < 2; loose++) {
            for (int what = 0; what < 2; what++) due("both are NONE", t.best(0, loose, what), NO);
        }
        t.jam(1, 6);
        x(t, 0, 3, 1);
        of(10, "NONE: none HOLDS.");
        t = read("gate A least 7;gate B most 11;wish 1 all 12 A 1 B 1;");
        due("neither 0 nor M holds", t.best(0, 0, 0), NO);
        looseX(t, 0, 11, 1);
        t.jam(1, 12);
        x(t, 0, 12, 1);
        t.jam(1, 11);
        t.jam(0, 0);
        x(t, 0, 0, 1);
    }

    private static void terms() {
        of(10, "Numbers are told as fractions in least terms, the lower one above 0.");
        for (int use = 1; use <= 9; use++) {
            DawnTable t = read("gate A most 0;wish 99 part 12 A " + use + ";");
            for (int n = 0; n <= 99; n++) {
                t.jam(0, n);
                int up = Math.min(n, 12 * use);
                int common = common(up, use);
                x(t, 0, up / common, use / common);
                common = common(99 * up, use);
                worthOf(t, 99 * up / common, use / common);
            }
        }
        // two gates: 9 x + 8 y = 99 and 8 x + 9 y = 97, so x = 115/17 and y = 81/17
        DawnTable t = read("gate A most 99;gate B most 97;wish 99 part 12 A 9 B 8;wish 99 part 12 A 8 B 9;");
        x(t, 0, 115, 17);
        x(t, 1, 81, 17);
        worthOf(t, 99 * 196, 17);
        // three gates, each wish at all but one: 9 y + 8 z = 99, 9 z + 8 x = 98, 9 x + 8 y = 97
        t = read("gate A most 99;gate B most 98;gate C most 97;"
            + "wish 97 part 12 B 8 C 9;wish 98 part 12 A 9 C 8;wish 99 part 12 A 8 B 9;");
        long[] xyz = {97 * 81 - 99 * 72 + 98 * 64, 99 * 81 - 98 * 72 + 97 * 64, 98 * 81 - 97 * 72 + 99 * 64};
        for (int w = 0; w < 3; w++) {
            long common = common((int) xyz[w], 9 * 9 * 9 + 8 * 8 * 8);
            x(t, w, xyz[w] / common, (9 * 9 * 9 + 8 * 8 * 8) / common);
        }
    }

    private static int common(int a, int b) {
        return b == 0 ? a : common(b, a % b);
    }

    private static void bestArguments() {
        of(10, "x of a wish in BEST (loose = 0), LOOSE (1): the upper number (what = 0), the lower one (1).");
        DawnTable t = read("gate A most 5;" + times("wish 3 whole 1 A 2;", 4));
        for (int w = 0; w < 4; w++) x(t, w, w < 2 ? 0 : 1, 1);
        looseX(t, 1, 1, 2);
        for (int loose = 0; loose < 2; loose++) {
            for (int what = 0; what < 2; what++) {
                due("best(4, ..)", t.best(4, loose, what), NO);
                due("best(-1, ..)", t.best(-1, loose, what), NO);
                for (int far : FAR) due("best(" + far + ", ..)", t.best(far, loose, what), NO);
            }
            due("best(0, .., 2)", t.best(0, loose, 2), NO);
            due("best(0, .., -1)", t.best(0, loose, -1), NO);
            due("best(0, 2, ..)", t.best(0, 2, loose), NO);
            due("best(0, -1, ..)", t.best(0, -1, loose), NO);
            for (int far : FAR) due("best(0, .., " + far + ")", t.best(0, loose, far), NO);
            for (int far : FAR) due("best(0, " + far + ", ..)", t.best(0, far, loose), NO);
        }
    }

    private static void worth() {
        of(11, "THE WORTH: WORTH times x, added.");
        DawnTable t = read(times("wish 99 part 12;", 4));
        worthOf(t, 4752, 1);
        looseWorth(t, 4752, 1);
        t = read(times("wish 0 whole 12;", 4));
        worthOf(t, 0, 1);
        t = read("wish 1 part 1;wish 20 whole 2;wish 3 all 3;wish 40 part 4;");
        worthOf(t, 1 + 40 + 9 + 160, 1);
        t.off(1, 3, 1);
        worthOf(t, 50, 1);
        of(11, "LOOSE: BEST as if all were of part.");
        t = read("gate A most 5;wish 3 all 3 A 2;");
        worthOf(t, 0, 1);
        looseWorth(t, 15, 2);
        t = read("gate A most 5;wish 3 whole 12 A 2;");
        worthOf(t, 6, 1);
        looseWorth(t, 15, 2);
        of(11, "THE WORTH of BEST, LOOSE likewise. NO: NONE, or BAD.");
        for (int side = 0; side < 2; side++) {
            due("worth(2, ..)", t.worth(2, side), NO);
            due("worth(-1, ..)", t.worth(-1, side), NO);
            due("worth(.., 2)", t.worth(side, 2), NO);
            due("worth(.., -1)", t.worth(side, -1), NO);
            for (int far : FAR) due("worth(" + far + ", ..)", t.worth(far, side), NO);
            for (int far : FAR) due("worth(.., " + far + ")", t.worth(side, far), NO);
        }
        t = read(PARTS_ALONE);
        due("BEST is NONE", t.worth(0, 0), NO);
        due("BEST is NONE", t.worth(0, 1), NO);
        looseWorth(t, 25, 2);
        t.jam(0, 6);
        due("LOOSE is NONE too", t.worth(1, 0), NO);
        due("LOOSE is NONE too", t.worth(1, 1), NO);
    }

    private static void gap() {
        of(12, "GAP: WORTH of LOOSE less that of BEST.");
        DawnTable t = read("gate A most 5;wish 3 whole 12 A 2;");
        fraction("gap", t.gap(0), t.gap(1), 3, 2);
        t.jam(0, 6);
        fraction("no gap", t.gap(0), t.gap(1), 0, 1);
        t = read("gate A most 7;wish 3 part 12 A 9;");
        fraction("parts have no gap", t.gap(0), t.gap(1), 0, 1);
        // LOOSE has 99 / 9 times 99, BEST nothing
        t = read("gate A most 99;wish 99 all 12 A 9;");
        fraction("gap", t.gap(0), t.gap(1), 1089, 1);
        // LOOSE x = 7/3, BEST takes 1 of the second for the rest: 7/3 * 5 - (10 + 1)
        t = read("gate A most 7;wish 5 whole 12 A 3;wish 1 part 12 A 1;");
        fraction("gap of two fractions", t.gap(0), t.gap(1), 2, 3);
        of(12, "GAP likewise. NO: NONE, or BAD.");
        for (int what : new int[] {2, -1}) due("gap(" + what + ")", t.gap(what), NO);
        for (int far : FAR) due("gap(" + far + ")", t.gap(far), NO);
        t = read(PARTS_ALONE);
        for (int what = 0; what < 2; what++) due("BEST is NONE", t.gap(what), NO);
        t.jam(0, 6);
        for (int what = 0; what < 2; what++) due("both are NONE", t.gap(what), NO);
        t.jam(0, 4);
        fraction("gap", t.gap(0), t.gap(1), 5, 2);
    }

    private static void more(DawnTable t, int g, long up, long low) {
        int n = t.gate(g, 2);
        fraction("more of gate " + g, t.more(g, 0), t.more(g, 1), up, low);
        due("N stays", t.gate(g, 2), n);
    }

    private static void more() {
        of(13, "MORE of a gate: what WORTH of LOOSE is more with N 1 more there");
        DawnTable t = read("gate A most 99;wish 7 part 12 A 9;");
        more(t, 0, 7, 9);
        t.jam(0, 98);
        more(t, 0, 7, 9);
        t.jam(0, 0);
        more(t, 0, 7, 9);
        t = read("gate A most 99;wish 5 part 12 A 8;wish 7 part 12 A 1;");
        more(t, 0, 5, 8);
        t.jam(0, 11);
        more(t, 0, 7, 1);
        t.jam(0, 12);
        more(t, 0, 5, 8);
        t = read("gate A most 12;wish 7 part 12 A 1;");
        more(t, 0, 0, 1);
        t.jam(0, 11);
        more(t, 0, 7, 1);
        t = read("gate A most 7;wish 7 whole 12 A 2;");
        more(t, 0, 7, 2);
        t.jam(0, 6);
        more(t, 0, 7, 2);
        t = read("gate A most 11;wish 7 all 12 A 1;");
        more(t, 0, 7, 1);
        due("worth of BEST stays", t.worth(0, 0), 0);
        of(13, "(may be below 0, of least;");
        t = read("gate A least 2;gate B most 12;wish 1 part 12 A 2 B 1;wish 3 part 12 B 1;");
        more(t, 0, -1, 1);
        more(t, 1, 3, 1);
        t = read("gate A least 3;gate B most 12;wish 2 part 12 A 4 B 1;wish 5 part 12 B 1;");
        more(t, 0, -3, 4);
        t.jam(0, 0);
        more(t, 0, -3, 4);
        t = read("gate A least 3;wish 2 part 12 A 4;");
        more(t, 0, 0, 1);
        t = read("gate A least 99;gate B most 97;wish 1 part 12 A 9 B 9;wish 3 part 12 A 9 B 8;");
        more(t, 0, 0, 1);
    }

    private static void moreState() {
        of(13, "STATE, if none HOLDS with it or without).");
        DawnTable t = read("gate A least 12;gate B most 9;wish 1 part 12 A 1;");
        for (int what = 0; what < 2; what++) due("none HOLDS with 13", t.more(0, what), NO);
        more(t, 1, 0, 1);
        t.jam(0, 11);
        more(t, 0, 0, 1);
        t = read("gate A most 4;gate B least 5;wish 1 part 9 A 1 B 1;");
        for (int what = 0; what < 2; what++) {
            due("none HOLDS without, but with it", t.more(0, what), NO);
            due("none HOLDS with or without", t.more(1, what), NO);
        }
        t.jam(0, 5);
        more(t, 0, 1, 1);
        for (int what = 0; what < 2; what++) due("none HOLDS with 6", t.more(1, what), NO);
        t = read("gate A least 99;wish 1 part 11 A 9;");
        due("none HOLDS with 100", t.more(0, 0), NO);
        due("N stays", t.gate(0, 2), 99);
        t = read(PARTS_ALONE);
        more(t, 1, 5, 2);
    }

    private static void moreArguments() {
        of(13, "MORE of a gate likewise. NO: BAD (of one that is OFF, too), or STATE; N stays.");
        DawnTable t = read("gate A most 5;gate E most 5;wish 3 part 12 A 1;wish 4 part 12 E 1;");
        more(t, 0, 3, 1);
        more(t, 1, 4, 1);
        t.off(0, 0, 1);
        for (int what = 0; what < 2; what++) due("of one that is OFF", t.more(0, what), NO);
        due("N stays", t.gate(0, 2), 5);
        more(t, 1, 4, 1);
        t.off(0, 0, 0);
        more(t, 0, 3, 1);
        for (int what = 0; what < 2; what++) {
            for (int g : new int[] {2, 4, 5, -1}) due("more(" + g + ", ..)", t.more(g, what), NO);
            for (int far : FAR) due("more(" + far + ", ..)", t.more(far, what), NO);
        }
        for (int what : new int[] {2, -1}) due("more(0, " + what + ")", t.more(0, what), NO);
        for (int far : FAR) due("more(0, " + far + ")", t.more(0, far), NO);
    }

    private static void clashes(DawnTable t, int set) {
        due("clash(0)", t.clash(0), set == NONE ? NONE : Integer.bitCount(set));
        due("clash(1)", t.clash(1), set);
    }

    private static void clash() {
        of(14, "CLASH: the fewest gates by which alone (all others OFF) no CLEARING of parts HOLDS");
        clashes(new DawnTable(), NONE);
        clashes(read("gate A most 0;gate B least 0;"), NONE);
        clashes(read("gate A least 1;"), 1);
        clashes(read("wish 5 part 6;"), NONE);
        DawnTable t = read("gate A most 8;gate B least 8;wish 1 part 12 A 1 B 1;");
        clashes(t, NONE);
        t.jam(1, 9);
        clashes(t, 3);
        t.jam(1, 12);
        clashes(t, 3);
        t.jam(1, 13);
        clashes(t, 2);
        t = read("gate A most 1;gate B most 1;gate C most 1;gate D most 1;gate E least 4;"
            + "wish 1 all 9 A 1 E 1;wish 1 all 9 B 1 E 1;wish 1 all 9 C 1 E 1;wish 1 all 9 D 1 E 1;");
        clashes(t, NONE);
        t.jam(4, 5);
        clashes(t, 31);
        t.jam(3, 2);
        clashes(t, NONE);
        t = read(PARTS_ALONE);
        clashes(t, NONE);
        due("though BEST is NONE", t.worth(0, 0), NO);
        // A and B can't be held in whole numbers, C and D not in parts either
        t = read("gate A least 5;gate B most 5;gate C least 4;gate D most 3;wish 5 whole 4 A 2 B 2;wish 1 part 9 C 1 D 1;");
        clashes(t, 12);
        of(14, "CLASH of gates that are not OFF: how many (what = 0), the set (1); NONE. BAD.");
        t = read("gate A most 3;gate B least 4;gate C least 9;wish 1 part 8 A 1 B 1 C 1;");
        clashes(t, 4);
        t.off(0, 2, 1);
        clashes(t, 3);
        t.off(0, 1, 1);
        clashes(t, NONE);
        t.off(0, 1, 0);
        t.off(0, 0, 1);
        clashes(t, NONE);
        t.off(1, 0, 1);
        clashes(t, 2);
    }

    private static void clashLeastSet() {
        of(14, "of several the least set (bits by gates); NONE.");
        clashes(read("gate A least 1;gate B least 1;gate C least 1;gate D least 1;gate E least 1;"), 1);
        clashes(read("gate A least 0;gate B least 1;gate E least 1;"), 2);
        clashes(read("gate B most 1;gate C most 1;gate E least 1;"), 4);
        // A with D is 9, B with C is 6
        DawnTable t = read("gate A most 3;gate D least 4;gate B most 3;gate C least 4;wish 1 part 9 A 1 D 1;wish 1 part 9 B 1 C 1;");
        clashes(t, 6);
        t.jam(1, 4);
        clashes(t, 9);
        // A with B is 3, and one gate alone, the last, is fewer
        t = read("gate A most 3;gate B least 4;gate E least 10;wish 1 part 9 A 1 B 1 E 1;");
        clashes(t, 4);
        t.jam(2, 9);
        clashes(t, 3);
    }

    private static void clashArguments() {
        of(14, "CLASH of gates that are not OFF: how many (what = 0), the set (1); NONE. BAD.");
        for (String text : new String[] {"", "gate A least 1;"}) {
            DawnTable t = read(text);
            for (int what : new int[] {2, -1}) due("clash(" + what + ")", t.clash(what), BAD);
            for (int far : FAR) due("clash(" + far + ")", t.clash(far), BAD);
        }
    }
}
