/** Promises 21 to 23: LABOUR, what is counted, and THE TRACE; the constants, and the most calls an object is used for. */
final class SumEdges extends Sentence {
    private static final int[] TRACES = {1, 11, 101, 1101, 10001};
    private static final String FIVE_GATES = "gate A most 1;gate B most 1;gate C most 1;gate D most 1;gate E most 1;";

    static void run() {
        constants();
        labourOfNothing();
        labourOfAll();
        net();
        whole();
        cut();
        changed();
        labourArguments();
        count();
        trace();
        mostCalls();
    }

    private static void constants() {
        of(21, "public static final int BAD = -1, STATE = -2, FULL = -3, NONE = -9;");
        due("BAD", DawnTable.BAD, -1);
        due("STATE", DawnTable.STATE, -2);
        due("FULL", DawnTable.FULL, -3);
        due("NONE", DawnTable.NONE, -9);
        of(10, "public static final long NO = -1000000000000000000L;");
        due("NO", DawnTable.NO, -1000000000000000000L);
    }

    private static void labours(DawnTable t, int... want) {
        for (int kind = 0; kind < 5; kind++) due("labour(" + kind + ")", t.labour(kind), want[kind]);
    }

    private static void labourOfNothing() {
        of(21, "TABLE gates and wishes that there are, and 1 (1).");
        labours(new DawnTable(), 1, 1, 1, 1, 1);
        labours(read("gate A most 1;"), 2, 2, 2, 4, 2);
        labours(read("wish 1 part 1;"), 2, 1, 2, 4, 2);
    }

    private static void labourOfAll() {
        of(21, "TABLE gates and wishes that there are, and 1 (1).");
        DawnTable t = read(FIVE_GATES + times("wish 1 all 1 A 1 B 1;", 4));
        labours(t, 10, 10, 18, 18 * 18 % 97, 10);
        for (int g = 0; g < 5; g++) t.off(0, g, 1);
        for (int w = 0; w < 4; w++) t.off(1, w, 1);
        labours(t, 10, 10, 18, 18 * 18 % 97, 19);
        due("table() of nothing", t.table(), 0);
        labours(t, 1, 1, 1, 1, 1);
    }

    private static void net() {
        of(21, "NET up, less wishes that use one gate at most (10).");
        due("none, one, two and five gates", read(FIVE_GATES
            + "wish 1 part 1;wish 1 part 1 E 1;wish 1 part 1 A 1 E 1;wish 1 part 1 A 1 B 1 C 1 D 1 E 1;").labour(1), 8);
        due("four of none", read(times("wish 1 part 1;", 4)).labour(1), 1);
        due("four of one", read(FIVE_GATES + times("wish 1 part 1 C 9;", 4)).labour(1), 6);
        due("four of two", read(FIVE_GATES + times("wish 1 part 1 C 9 D 1;", 4)).labour(1), 10);
        DawnTable t = read("gate A most 1;gate B most 1;wish 1 part 1 A 1;wish 1 part 1 A 1 B 1;");
        t.off(0, 1, 1);
        t.off(1, 0, 1);
        due("USES stay, whatever is OFF", t.labour(1), 4);
    }

    private static void whole() {
        of(21, "WHOLE up, and twice the wishes of whole or all (100).");
        due("one of each", read("wish 1 part 1;wish 1 whole 1;wish 1 all 1;").labour(2), 8);
        due("parts", read(times("wish 1 part 1;", 4)).labour(2), 5);
        due("whole ones", read(times("wish 1 whole 1;", 4)).labour(2), 13);
        due("all or none", read(times("wish 1 all 1;", 4)).labour(2), 13);
    }

    private static void cut() {
        of(21, "CUT up times up, modulo 97 (1000).");
        // WHOLE is 9: 81 is below 97; 10: 100 is not
        due("9", read(FIVE_GATES + "wish 1 part 1;wish 1 part 1;wish 1 part 1;").labour(3), 81);
        due("10", read(FIVE_GATES + times("wish 1 part 1;", 4)).labour(3), 3);
        due("12", read(FIVE_GATES + "wish 1 all 1;wish 1 all 1;").labour(3), 144 - 97);
        due("14, twice 97 and more", read(FIVE_GATES + "wish 1 part 1;wish 1 part 1;wish 1 all 1;wish 1 all 1;").labour(3), 196 - 194);
        due("18", read(FIVE_GATES + times("wish 1 whole 1;", 4)).labour(3), 324 - 291);
    }

    private static void changed() {
        of(21, "CHANGED up, and gates and wishes that are OFF (10000).");
        DawnTable t = read(FIVE_GATES + times("wish 1 part 1;", 4));
        for (int g = 0; g < 5; g++) {
            t.off(0, g, 1);
            due("gates OFF up to " + g, t.labour(4), 11 + g);
        }
        for (int w = 0; w < 4; w++) {
            t.off(1, w, 1);
            due("wishes OFF up to " + w, t.labour(4), 16 + w);
        }
        t.off(0, 0, 0);
        due("one gate is not", t.labour(4), 18);
        t.jam(0, 5);
        due("a gate that jams is not OFF", t.labour(4), 18);
    }

    private static void labourArguments() {
        of(21, "LABOUR. BAD.");
        DawnTable t = read("gate A most 1;");
        for (int kind : new int[] {-1, 5}) due("labour(" + kind + ")", t.labour(kind), BAD);
        for (int far : FAR) due("labour(" + far + ")", t.labour(far), BAD);
        of(23, "Refused, and nothing changes");
        due("trace() after those", t.trace(), 0);
    }

    private static void count() {
        of(22, "0 gates, 1 wishes, 2 gates that are OFF, 3 wishes that are OFF, 4 bytes of THE TEXT. BAD.");
        DawnTable t = read(FIVE_GATES + times("wish 1 part 1;", 4));
        due("gates", t.count(0), 5);
        due("wishes", t.count(1), 4);
        for (int g = 0; g < 5; g++) {
            due("gates OFF", t.count(2), g);
            t.off(0, g, 1);
            t.off(0, g, 1);
        }
        for (int w = 0; w < 4; w++) {
            due("wishes OFF", t.count(3), w);
            t.off(1, w, 1);
            t.off(1, w, 1);
        }
        due("all gates OFF", t.count(2), 5);
        due("all wishes OFF", t.count(3), 4);
        due("gates, all OFF", t.count(0), 5);
        due("wishes, all OFF", t.count(1), 4);
        due("bytes", t.count(4), 0);
        enter(t, times("x", 300));
        due("bytes", t.count(4), 300);
        t.type(0, 1);
        due("bytes after FULL", t.count(4), 300);
        for (int what : new int[] {-1, 5}) due("count(" + what + ")", t.count(what), BAD);
        for (int far : FAR) due("count(" + far + ")", t.count(far), BAD);
    }

    private static void trace() {
        of(23, "(numbers in brackets come to THE TRACE as often as labour() asks that body; \"up\" is what the KIND above does)");
        for (int kind = 0; kind < 5; kind++) {
            DawnTable t = new DawnTable();
            due("trace() at first", t.trace(), 0);
            for (int i = 1; i <= 3; i++) {
                t.labour(kind);
                due("trace() after labour(" + kind + ")", t.trace(), i * TRACES[kind]);
                due("trace() again", t.trace(), i * TRACES[kind]);
            }
        }
        DawnTable t = read(FIVE_GATES + times("wish 1 all 1 A 1;", 4));
        long sum = 0;
        for (int kind = 4; kind >= 0; kind--) {
            t.labour(kind);
            sum += TRACES[kind];
            due("trace() of a full table", t.trace(), sum);
        }
        everything(t);
        t.gap(0);
        t.more(0, 0);
        t.clash(0);
        t.reach(0);
        t.fair(0, 0);
        t.lie(0);
        t.core();
        due("no other call comes to it", t.trace(), sum);
        enter(t, "gate A most 1;");
        t.table();
        due("a new table leaves it", t.trace(), sum);
        t.clear();
        t.labour(0);
        due("and it goes on", t.trace(), sum + 1);
    }

    private static void mostCalls() {
        of(23, "An object is used for at most 512 calls after it has been made");
        for (int kind = 0; kind < 5; kind++) {
            DawnTable t = new DawnTable();
            for (int i = 0; i < 511; i++) t.labour(kind);
            due("the 512th call, trace()", t.trace(), 511L * TRACES[kind]);
        }
        DawnTable t = read("gate A most 1;wish 1 part 1 A 1;");
        for (int i = 0; i < 500; i++) t.off(1, 0, i % 2);
        due("the last off()", t.off(1, 0, 0), 1);
        due("worth", t.worth(0, 0), 1);
    }
}
