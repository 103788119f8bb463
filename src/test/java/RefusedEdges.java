/** Every call that is refused, on an object with something of all there may be: its answer, and that nothing changes. */
final class RefusedEdges extends Sentence {
    private static final String TABLE = "gate E most 20;gate C least 3;gate A most 30;"
        + "wish 7 whole 5 A 3 C 2;wish 6 part 6 A 2 C 3 E 1;wish 9 all 2 A 4 E 9;";
    private static String want = "";

    /** One call of an object, by its name. */
    private interface Call {
        long of(DawnTable t);
    }

    static void run() {
        want = everything(one());
        typed();
        gates();
        wishes();
        sides();
        told();
        sums();
        none();
    }

    private static DawnTable one() {
        DawnTable t = new DawnTable();
        enter(t, TABLE);
        t.table();
        t.jam(0, 31);
        t.off(0, 2, 1);
        t.off(1, 2, 1);
        t.tell(0, 0, 7, 12);
        t.tell(1, 1, -5, 11);
        t.labour(3);
        enter(t, times(" ", 295) + "x");
        return t;
    }

    private static void refused(String name, long answer, Call call) {
        DawnTable t = one();
        due(name, call.of(t), answer);
        due("all after " + name, everything(t), want);
        due(name + " again", call.of(t), answer);
    }

    private static void typed() {
        of(2, "Refused, and nothing changes, the first of these: BAD (a number is not as told, or there is no such thing), "
            + "STATE (as told), FULL.");
        for (int n : new int[] {0, 9, -1, Integer.MIN_VALUE, Integer.MAX_VALUE}) {
            refused("type(.., " + n + ")", BAD, t -> t.type(-1L, n));
        }
        for (int n = 5; n <= 8; n++) {
            int many = n;
            refused("type(.., " + n + ")", FULL, t -> t.type(-1L, many));
        }
        of(4, "-10 less FAULT: nothing changes.");
        refused("table()", -10 - 295, DawnTable::table);
    }

    private static void gates() {
        for (int g : new int[] {-1, 3, 4, 5, Integer.MIN_VALUE, Integer.MAX_VALUE, 1 << 16}) {
            of(5, "3 whether it is OFF. BAD.");
            refused("gate(" + g + ", 2)", BAD, t -> t.gate(g, 2));
            of(7, "USES of a wish at a gate (0: none). BAD.");
            refused("uses(0, " + g + ")", BAD, t -> t.uses(0, g));
            of(8, "N of a gate becomes v: what it was. BAD.");
            refused("jam(" + g + ", 5)", BAD, t -> t.jam(g, 5));
            of(9, "is OFF (off = 1), or not (0): what it was. BAD.");
            refused("off(0, " + g + ", 1)", BAD, t -> t.off(0, g, 1));
            refused("off(0, " + g + ", 0)", BAD, t -> t.off(0, g, 0));
            of(13, "NO: BAD (of one that is OFF, too), or STATE; N stays.");
            refused("more(" + g + ", 0)", NO, t -> t.more(g, 0));
            of(15, "PRICE of a gate (1) becomes up by down: 1. BAD.");
            refused("tell(1, " + g + ", 5, 1)", BAD, t -> t.tell(1, g, 5, 1));
        }
        of(8, "N of a gate becomes v: what it was. BAD.");
        for (int v : new int[] {-1, 100, 256, Integer.MIN_VALUE, Integer.MAX_VALUE}) {
            for (int g = 0; g < 3; g++) {
                int of = g;
                refused("jam(" + g + ", " + v + ")", BAD, t -> t.jam(of, v));
            }
        }
        of(13, "NO: BAD (of one that is OFF, too), or STATE; N stays.");
        refused("more(2, 0)", NO, t -> t.more(2, 0));
    }

    private static void wishes() {
        for (int w : new int[] {-1, 3, 4, 5, Integer.MIN_VALUE, Integer.MAX_VALUE, 1 << 16}) {
            of(6, "3 whether it is OFF. BAD.");
            refused("wish(" + w + ", 0)", BAD, t -> t.wish(w, 0));
            of(7, "USES of a wish at a gate (0: none). BAD.");
            refused("uses(" + w + ", 0)", BAD, t -> t.uses(w, 0));
            of(9, "is OFF (off = 1), or not (0): what it was. BAD.");
            refused("off(1, " + w + ", 1)", BAD, t -> t.off(1, w, 1));
            refused("off(1, " + w + ", 0)", BAD, t -> t.off(1, w, 0));
            of(10, "NO: NONE, or BAD.");
            refused("best(" + w + ", 0, 0)", NO, t -> t.best(w, 0, 0));
            of(15, "TOLD x of a wish (what = 0)");
            refused("tell(0, " + w + ", 5, 1)", BAD, t -> t.tell(0, w, 5, 1));
            of(17, "or the wish is OFF). BAD.");
            refused("reach(" + w + ")", BAD, t -> t.reach(w));
            of(18, "NO: BAD, or no BEST with or without it");
            refused("fair(" + w + ", 0)", NO, t -> t.fair(w, 0));
            of(19, "(NONE: no BEST, or it is OFF). BAD.");
            refused("lie(" + w + ")", BAD, t -> t.lie(w));
        }
    }

    private static void sides() {
        for (int what : new int[] {-1, 2, 4, Integer.MIN_VALUE, Integer.MAX_VALUE, 1 << 16}) {
            of(9, "is OFF (off = 1), or not (0): what it was. BAD.");
            for (int off = 0; off < 2; off++) {
                int to = off;
                refused("off(" + what + ", 0, " + off + ")", BAD, t -> t.off(what, 0, to));
                refused("off(" + off + ", 2, " + what + ")", BAD, t -> t.off(to, 2, what));
                refused("off(" + off + ", 0, " + what + ")", BAD, t -> t.off(to, 0, what));
            }
            of(10, "NO: NONE, or BAD.");
            refused("best(0, " + what + ", 0)", NO, t -> t.best(0, what, 0));
            refused("best(0, 0, " + what + ")", NO, t -> t.best(0, 0, what));
            of(11, "NO: NONE, or BAD.");
            refused("worth(" + what + ", 0)", NO, t -> t.worth(what, 0));
            refused("worth(0, " + what + ")", NO, t -> t.worth(0, what));
            of(12, "GAP likewise. NO: NONE, or BAD.");
            refused("gap(" + what + ")", NO, t -> t.gap(what));
            of(13, "NO: BAD (of one that is OFF, too), or STATE; N stays.");
            refused("more(0, " + what + ")", NO, t -> t.more(0, what));
            of(14, "how many (what = 0), the set (1); NONE. BAD.");
            refused("clash(" + what + ")", BAD, t -> t.clash(what));
            of(18, "NO: BAD, or no BEST with or without it");
            refused("fair(0, " + what + ")", NO, t -> t.fair(0, what));
            refused("fair(2, " + what + ")", NO, t -> t.fair(2, what));
        }
        for (int what : new int[] {-1, 4, Integer.MIN_VALUE, Integer.MAX_VALUE, 1 << 16}) {
            of(5, "3 whether it is OFF. BAD.");
            refused("gate(0, " + what + ")", BAD, t -> t.gate(0, what));
            of(6, "3 whether it is OFF. BAD.");
            refused("wish(0, " + what + ")", BAD, t -> t.wish(0, what));
        }
    }

    private static void told() {
        of(15, "becomes up by down: 1. BAD.");
        for (int what = 0; what < 2; what++) {
            int of = what;
            for (int up : new int[] {-1000, 1000, Integer.MIN_VALUE, Integer.MAX_VALUE, 1 << 16}) {
                refused("tell(" + what + ", 0, " + up + ", 1)", BAD, t -> t.tell(of, 0, up, 1));
            }
            for (int down : new int[] {0, 13, -1, Integer.MIN_VALUE, Integer.MAX_VALUE, 1 << 16}) {
                refused("tell(" + what + ", 0, 5, " + down + ")", BAD, t -> t.tell(of, 0, 5, down));
            }
        }
        for (int what : new int[] {-1, 2, Integer.MIN_VALUE, Integer.MAX_VALUE, 1 << 16}) {
            refused("tell(" + what + ", 0, 5, 1)", BAD, t -> t.tell(what, 0, 5, 1));
        }
    }

    private static void sums() {
        for (int what : new int[] {-1, 5, Integer.MIN_VALUE, Integer.MAX_VALUE, 1 << 16}) {
            of(21, "LABOUR. BAD.");
            refused("labour(" + what + ")", BAD, t -> t.labour(what));
            of(22, "4 bytes of THE TEXT. BAD.");
            refused("count(" + what + ")", BAD, t -> t.count(what));
        }
    }

    /** Answers that are no number, of calls that are not refused: they leave all as it was, too. */
    private static void none() {
        of(17, "REACH; NONE (also where there is no BEST, or the wish is OFF).");
        refused("reach(2)", NONE, t -> t.reach(2));
        of(19, "LIE: the WORTH told (NONE: no BEST, or it is OFF).");
        refused("lie(2)", NONE, t -> t.lie(2));
        of(18, "0 by 1 of one that is OFF, where there is a BEST.");
        refused("fair(2, 0)", 0, t -> t.fair(2, 0));
        refused("fair(2, 1)", 1, t -> t.fair(2, 1));
        of(14, "of several the least set (bits by gates); NONE.");
        refused("clash(0)", NONE, t -> t.clash(0));
        refused("clash(1)", NONE, t -> t.clash(1));
    }
}
