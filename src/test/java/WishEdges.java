/** Promises 17 to 20: REACH, FAIR, LIE and CORE. */
final class WishEdges extends Sentence {
    private static final String NO_BEST = "gate A least 5;gate B most 5;wish 5 whole 4 A 2 B 2;wish 1 part 1;";

    static void run() {
        reach();
        reachNone();
        reachArguments();
        fair();
        fairNone();
        fairArguments();
        lie();
        lieTies();
        lieArguments();
        core();
        coreNone();
        answersStay();
    }

    private static void reach() {
        of(17, "REACH of a wish: the least whole number t (1 .. 99) by which, were its WORTH t more, BEST would have a greater "
            + "WORTH than this BEST as it is (with that WORTH); NONE.");
        for (int other = 0; other <= 99; other++) {
            DawnTable t = read("gate A most 1;wish 0 part 1 A 1;wish " + other + " part 1 A 1;");
            // with t = other both clearings are worth the same, which is not greater
            due("reach(0) beside " + other, t.reach(0), other < 99 ? other + 1 : NONE);
            due("reach(1)", t.reach(1), other == 0 ? 1 : NONE);
            due("its WORTH stays", t.wish(0, 0), 0);
        }
        // 3 of wish 1 are worth 9; one of wish 0 leaves one of wish 1: 4 + t + 3
        DawnTable t = read("gate A most 3;wish 4 whole 3 A 2;wish 3 part 3 A 1;");
        due("reach(0)", t.reach(0), 3);
        // one of each is worth 9; two of wish 0 leave nothing: 2 (4 + t) > 4 + t + 5
        t = read("gate A most 5;wish 4 whole 2 A 2;wish 5 whole 1 A 2;");
        due("x that is not 0 at first", t.best(0, 0, 0), 1);
        due("reach(0), of BEST and not of LOOSE", t.reach(0), 2);
        due("a WORTH above 99", read("gate A most 1;wish 10 part 1 A 2;wish 54 part 1 A 1;").reach(0), 99);
        due("past 99", read("gate A most 1;wish 9 part 1 A 2;wish 54 part 1 A 1;").reach(0), NONE);
        due("99 and 98 more", read("gate A most 1;wish 99 part 1 A 2;wish 98 part 1 A 1;").reach(0), 98);
        due("99 and 99 more are as good", read("gate A most 1;wish 99 part 1 A 2;wish 99 part 1 A 1;").reach(0), NONE);
    }

    private static void reachNone() {
        of(17, "REACH; NONE (also where there is no BEST, or the wish is OFF). BAD.");
        due("x is M", read("wish 5 part 12;").reach(0), NONE);
        due("x is 0, nothing is in its way", read("wish 0 part 12;").reach(0), 1);
        due("x can't grow", read("gate A most 0;wish 5 part 12 A 1;").reach(0), NONE);
        due("all or none, and all is too much", read("gate A most 11;wish 5 all 12 A 1;").reach(0), NONE);
        DawnTable t = read(NO_BEST);
        for (int w = 0; w < 2; w++) due("no BEST", t.reach(w), NONE);
        t = read("gate A most 1;gate B least 0;wish 0 part 1 A 1;wish 98 part 1 A 1;");
        due("a BEST at first", t.reach(0), 99);
        t.jam(1, 1);
        for (int w = 0; w < 2; w++) due("no BEST any more", t.reach(w), NONE);
        t = read("wish 0 part 12;wish 0 part 12;");
        t.off(1, 0, 1);
        due("it is OFF", t.reach(0), NONE);
        due("another is OFF", t.reach(1), 1);
        t.off(1, 0, 0);
        due("it is not OFF", t.reach(0), 1);
    }

    private static void reachArguments() {
        of(17, "REACH; NONE (also where there is no BEST, or the wish is OFF). BAD.");
        for (DawnTable t : new DawnTable[] {read(times("wish 5 part 1;", 4)), read(NO_BEST), new DawnTable()}) {
            for (int w : new int[] {-1, 4, 5}) due("reach(" + w + ")", t.reach(w), BAD);
            for (int far : FAR) due("reach(" + far + ")", t.reach(far), BAD);
            due("reach, one past the last", t.reach(t.count(1)), BAD);
        }
    }

    private static void fair(DawnTable t, int w, long up, long low) {
        fraction("fair of wish " + w, t.fair(w, 0), t.fair(w, 1), up, low);
    }

    private static void fair() {
        of(18, "FAIR: what a wish should pay: WORTH of BEST with it OFF, less WORTH of all others in BEST.");
        DawnTable t = read("gate A most 1;wish 9 part 1 A 1;wish 4 part 1 A 1;");
        fair(t, 0, 4, 1);
        fair(t, 1, 0, 1);
        t = read("wish 99 part 12;wish 99 part 12;");
        fair(t, 0, 0, 1);
        fair(t, 1, 0, 1);
        t = read("gate A most 1;wish 9 part 1 A 2;wish 4 part 1 A 3;");
        fair(t, 0, 4, 3);
        fair(t, 1, 0, 1);
        t = read("gate A most 5;wish 9 whole 9 A 2;wish 10 whole 9 A 3;");
        // BEST is one of each, 19; alone two of the first are worth 18, one of the second 10
        fair(t, 0, 0, 1);
        fair(t, 1, 9, 1);
        // wish 0 helps: with it 4 need not be of wish 1
        t = read("gate A least 4;gate B most 6;wish 0 part 4 A 1;wish 3 part 6 A 1 B 1;wish 5 part 6 B 1;");
        fair(t, 0, -8, 1);
        t = read("gate A least 4;gate B most 6;wish 0 part 4 A 3;wish 3 part 6 A 1 B 5;wish 5 part 6 B 3;");
        // with it 6/3 of wish 2 are worth 10; without it 20 of B are needed, and there are 6
        due("none without it", t.fair(0, 0), NO);
        t.jam(0, 1);
        // without it 1 of wish 1 and 1/3 of wish 2: 3 + 5/3 less 10
        fair(t, 0, -16, 3);
    }

    private static void fairNone() {
        of(18, "NO: BAD, or no BEST with or without it; 0 by 1 of one that is OFF, where there is a BEST.");
        DawnTable t = read("gate A least 4;wish 5 part 4 A 1;wish 2 part 3 A 1;");
        for (int what = 0; what < 2; what++) due("no BEST without it", t.fair(0, what), NO);
        fair(t, 1, 0, 1);
        t.off(1, 1, 1);
        fair(t, 1, 0, 1);
        for (int what = 0; what < 2; what++) due("no BEST without it, still", t.fair(0, what), NO);
        t.off(1, 0, 1);
        for (int w = 0; w < 2; w++) {
            for (int what = 0; what < 2; what++) due("it is OFF, and there is no BEST", t.fair(w, what), NO);
        }
        t.off(0, 0, 1);
        for (int w = 0; w < 2; w++) fair(t, w, 0, 1);
        t = read(NO_BEST);
        for (int what = 0; what < 2; what++) due("no BEST with it", t.fair(0, what), NO);
        t.off(1, 0, 1);
        for (int what = 0; what < 2; what++) due("no BEST, it is OFF", t.fair(0, what), NO);
    }

    private static void fairArguments() {
        of(18, "FAIR: upper (what = 0), lower number (1). NO: BAD");
        DawnTable t = read(times("wish 5 part 1;", 4));
        for (int w = 0; w < 4; w++) fair(t, w, 0, 1);
        for (int what = 0; what < 2; what++) {
            for (int w : new int[] {-1, 4, 5}) due("fair(" + w + ", ..)", t.fair(w, what), NO);
            for (int far : FAR) due("fair(" + far + ", ..)", t.fair(far, what), NO);
        }
        for (int off = 0; off < 2; off++) {
            t.off(1, 0, off);
            for (int what : new int[] {2, -1}) due("fair(0, " + what + ")", t.fair(0, what), NO);
            for (int far : FAR) due("fair(0, " + far + ")", t.fair(0, far), NO);
        }
    }

    private static void lie() {
        of(19, "LIE: of told WORTHS 0 .. 99 in place of a wish's own that by which its own WORTH less the told one, times its x in "
            + "BEST by it, is greatest");
        for (int other = 0; other <= 99; other++) {
            DawnTable t = read("gate A most 1;wish 99 part 1 A 1;wish " + other + " part 1 A 1;");
            // one more than the other is enough; at 99 nothing is to be gained
            due("lie(0) beside " + other, t.lie(0), other < 98 ? other + 1 : 0);
            due("its WORTH stays", t.wish(0, 0), 99);
            // wish 1 has a tie for itself: x of wish 0 is the least
            t = read("gate A most 1;wish " + other + " part 1 A 1;wish 99 part 1 A 1;");
            due("lie(1) beside " + other, t.lie(1), other < 99 ? Math.max(other, 1) : 0);
        }
        DawnTable t = read("gate A most 1;wish 40 part 1 A 1;wish 30 part 1 A 1;wish 20 part 1 A 1;");
        due("lie(0)", t.lie(0), 31);
        due("lie(1) after it", t.lie(1), 0);
        t.off(1, 1, 1);
        due("lie(0), wish 1 is OFF", t.lie(0), 21);
        t.off(1, 0, 1);
        t.off(1, 1, 0);
        due("lie(1), wish 0 is OFF", t.lie(1), 21);
        t.off(1, 2, 1);
        due("lie(1), alone", t.lie(1), 1);
        t.jam(0, 0);
        due("lie(1), alone, and nothing is there", t.lie(1), 0);
        due("a WORTH of 0", read("wish 0 part 12;").lie(0), 0);
        due("a WORTH of 1", read("wish 1 part 12;").lie(0), 0);
        due("a WORTH of 2", read("wish 2 part 12;").lie(0), 1);
        due("x is 12 by any told one", read("gate A least 12;wish 99 part 12 A 1;").lie(0), 0);
        due("x is 0 by any told one", read("gate A most 0;wish 99 part 12 A 1;").lie(0), 0);
    }

    private static void lieTies() {
        of(19, "of several the least.");
        // told 2 it has 1 of 2, told 3 both: (4 - 2) 1 = (4 - 3) 2
        DawnTable t = read("gate A most 2;wish 2 part 1 A 1;wish 3 part 1 A 1;wish 4 part 2 A 1;");
        due("lie(2)", t.lie(2), 2);
        // with one more of its own the greater x gains more
        t = read("gate A most 2;wish 2 part 1 A 1;wish 3 part 1 A 1;wish 5 part 2 A 1;");
        due("lie(2)", t.lie(2), 3);
        t = read("gate A most 2;wish 2 part 1 A 1;wish 3 part 1 A 1;wish 3 part 2 A 1;");
        due("lie(2)", t.lie(2), 2);
        // nothing to gain: all told ones up to its own bring 0
        due("lie(1)", read("gate A most 1;wish 9 part 1 A 1;wish 4 part 1 A 1;").lie(1), 0);
    }

    private static void lieArguments() {
        of(19, "LIE: the WORTH told (NONE: no BEST, or it is OFF). BAD.");
        DawnTable t = read(NO_BEST);
        for (int w = 0; w < 2; w++) due("no BEST", t.lie(w), NONE);
        t = read("wish 5 part 12;wish 5 part 12;");
        t.off(1, 0, 1);
        due("it is OFF", t.lie(0), NONE);
        due("another is OFF", t.lie(1), 1);
        for (DawnTable one : new DawnTable[] {read(times("wish 5 part 1;", 4)), read(NO_BEST), new DawnTable()}) {
            for (int w : new int[] {-1, 4, 5}) due("lie(" + w + ")", one.lie(w), BAD);
            for (int far : FAR) due("lie(" + far + ")", one.lie(far), BAD);
            due("lie, one past the last", one.lie(one.count(1)), BAD);
        }
    }

    private static void core() {
        of(20, "CORE: wishes without any one of which (OFF, alone) WORTH of BEST is less, as bits.");
        due("all four", read(times("wish 1 part 1;", 4)).core(), 15);
        due("none has WORTH", read(times("wish 0 part 1;", 4)).core(), 0);
        for (int w = 0; w < 4; w++) {
            due("all but one", read(times("wish 1 part 1;", w) + "wish 0 part 1;" + times("wish 1 part 1;", 3 - w)).core(), 15 - (1 << w));
        }
        DawnTable t = read("gate A most 1;wish 5 part 1 A 1;wish 5 part 1 A 1;");
        due("each can stand for the other", t.core(), 0);
        t = read("gate A most 1;wish 5 part 1 A 1;wish 4 part 1 A 1;");
        due("a little less is less", t.core(), 1);
        t = read("gate A most 99;wish 98 part 12 A 9;wish 97 part 12 A 9;");
        due("in parts", t.core(), 1);
        of(20, "(Where none HOLDS without it, a wish is of CORE. Wishes that are OFF are not.)");
        t = read("gate A least 4;wish 0 part 4 A 1;wish 0 part 3 A 1;");
        due("none HOLDS without the first", t.core(), 1);
        t.jam(0, 3);
        due("either is enough", t.core(), 0);
        t.jam(0, 5);
        due("both are needed", t.core(), 3);
        t = read(times("wish 1 part 1;", 4));
        t.off(1, 0, 1);
        due("the first is OFF", t.core(), 14);
        t.off(1, 3, 1);
        due("the last is OFF too", t.core(), 6);
        t = read("gate A most 1;wish 5 part 1 A 1;wish 5 part 1 A 1;");
        t.off(1, 0, 1);
        due("the one that stood for it is OFF", t.core(), 2);
    }

    private static void coreNone() {
        of(20, "CORE; NONE: no BEST.");
        DawnTable t = read(NO_BEST);
        due("no BEST", t.core(), NONE);
        t.off(0, 0, 1);
        due("a BEST", t.core(), 3);
        t = read("gate A least 1;");
        due("no wishes, no BEST", t.core(), NONE);
        t.jam(0, 0);
        due("no wishes, a BEST", t.core(), 0);
    }

    /** What was asked leaves the table as it was, so each answer comes again in any order. */
    private static void answersStay() {
        of(17, "by which, were its WORTH t more");
        of(13, "or STATE; N stays.");
        DawnTable t = read("gate A most 11;gate B least 2;wish 7 whole 5 A 3 B 2;wish 6 part 6 A 2 B 3;wish 9 all 2 A 4;");
        t.off(1, 2, 1);
        String was = everything(t);
        for (int round = 0; round < 2; round++) {
            for (int w = 0; w < 3; w++) {
                t.reach(w);
                t.fair(w, 0);
                t.lie(w);
            }
            for (int g = 0; g < 2; g++) t.more(g, 0);
            t.core();
            t.gap(0);
            t.clash(1);
            due("all", everything(t), was);
        }
    }
}
