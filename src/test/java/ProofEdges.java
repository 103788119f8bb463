/** Promises 15 and 16: what is TOLD, and the CHECK of it. */
final class ProofEdges extends Sentence {
    static void run() {
        tell();
        tellWrong();
        atFirst();
        amounts();
        offWishes();
        gatesHold();
        prices();
        sums();
        elevenths();
        closest();
        greatPrices();
        rest();
        order();
        proved();
    }

    private static void tell() {
        of(15, "TOLD are x of wishes and PRICES of gates (-999 .. 999 by 1 .. 12; 0 at first; all anew once THE TABLE is read).");
        DawnTable t = read("gate A most 99;gate E least 0;" + times("wish 0 part 12;", 4));
        for (int up : new int[] {-999, -1, 0, 1, 999}) {
            for (int down : new int[] {1, 2, 7, 11, 12}) {
                for (int w = 0; w < 4; w++) {
                    due("tell(0, " + w + ", " + up + ", " + down + ")", t.tell(0, w, up, down), 1);
                    due("check()", t.check(), up < 0 || up > 12 * down ? 1 : 0);
                    t.tell(0, w, 0, 1);
                }
                for (int g = 0; g < 2; g++) {
                    due("tell(1, " + g + ", " + up + ", " + down + ")", t.tell(1, g, up, down), 1);
                    // a price above 0 of the most gate brings a sum above 0, one below 0 of the least gate nothing
                    int want = up == 0 ? 0 : up < 0 == (g == 0) ? 3 : g == 0 ? 4 : 0;
                    due("check()", t.check(), want);
                    t.tell(1, g, 0, 12);
                }
            }
        }
    }

    private static void tellWrong() {
        of(15, "TOLD x of a wish (what = 0), PRICE of a gate (1) becomes up by down: 1. BAD.");
        DawnTable t = read("gate B most 9;gate D least 0;wish 1 part 9 B 1;wish 0 part 12;wish 0 part 12;");
        int[] many = {3, 2};
        for (int what = 0; what < 2; what++) {
            for (int up : new int[] {-1000, 1000}) due("up " + up, t.tell(what, 0, up, 1), BAD);
            for (int up : FAR) if (up < -999 || up > 999) due("up " + up, t.tell(what, 0, up, 1), BAD);
            for (int down : new int[] {0, 13, -1, -12}) due("down " + down, t.tell(what, 0, -1, down), BAD);
            for (int down : FAR) due("down " + down, t.tell(what, 0, -1, down), BAD);
            for (int i : new int[] {-1, many[what], 4, 5}) due("i " + i, t.tell(what, i, -1, 1), BAD);
            for (int i : FAR) due("i " + i, t.tell(what, i, -1, 1), BAD);
        }
        for (int what : new int[] {-1, 2}) due("what " + what, t.tell(what, 0, -1, 1), BAD);
        for (int what : FAR) due("what " + what, t.tell(what, 0, -1, 1), BAD);
        t.tell(0, 0, 9, 1);
        due("nothing was told: all that is refused would be 1 or 3", t.check(), 0);
        t.tell(1, 0, 1, 1);
        due("a price that proves it too", t.check(), 0);
        for (int what = 0; what < 2; what++) {
            t.tell(what, 0, 1000, 1);
            t.tell(what, 0, 1, 13);
            t.tell(what, 0, 0, 0);
        }
        due("what was told stays", t.check(), 0);
        due("wishes alone: no gate", read("wish 1 part 1;").tell(1, 0, 0, 1), BAD);
        due("gates alone: no wish", read("gate A most 1;").tell(0, 0, 0, 1), BAD);
    }

    private static void atFirst() {
        of(15, "0 at first; all anew once THE TABLE is read");
        String text = "gate A least 1;gate B most 9;wish 1 part 9 A 1 B 1;";
        DawnTable t = read(text);
        due("x is 0 at first", t.check(), 2);
        t.jam(0, 0);
        due("PRICES are 0 at first", t.check(), 4);
        t.tell(0, 0, 9, 1);
        due("proved without a price", t.check(), 0);
        t.tell(0, 0, -1, 1);
        t.tell(1, 0, 1, 1);
        t.tell(1, 1, -1, 1);
        enter(t, text);
        t.table();
        due("x is 0 anew", t.check(), 2);
        t.jam(0, 0);
        due("PRICES are 0 anew", t.check(), 4);
        t.tell(0, 0, 10, 1);
        enter(t, "gate");
        t.table();
        due("a FAULT leaves what is TOLD", t.check(), 1);
        t.clear();
        t.jam(0, 1);
        t.off(0, 0, 1);
        due("so do jam and off", t.check(), 1);
    }

    private static void amounts() {
        of(16, "1 an x is below 0 or above M, or not 0 where the wish is OFF");
        for (int m = 1; m <= 12; m++) {
            DawnTable t = read("wish 0 part 1;wish 0 all " + m + ";");
            for (int down = 1; down <= 12; down++) {
                int[] up = {0, -1, m * down, m * down + 1, m * down - 1};
                int[] want = {0, 1, 0, 1, 0};
                for (int i = 0; i < up.length; i++) {
                    t.tell(0, 1, up[i], down);
                    due("check() with x " + up[i] + " by " + down + ", M " + m, t.check(), want[i]);
                }
            }
        }
        for (int w = 0; w < 4; w++) {
            DawnTable t = read(times("wish 0 part 12;", 4));
            t.tell(0, w, -1, 12);
            due("x of wish " + w + " below 0", t.check(), 1);
            t.tell(0, w, 145, 12);
            due("x of wish " + w + " above M", t.check(), 1);
        }
    }

    private static void offWishes() {
        of(16, "or not 0 where the wish is OFF");
        DawnTable t = read("wish 0 part 12;wish 9 part 12;");
        t.off(1, 1, 1);
        due("x is 0", t.check(), 0);
        for (int up : new int[] {1, -1, 12, 144}) {
            t.tell(0, 1, up, 12);
            due("x is " + up + " by 12", t.check(), 1);
        }
        t.tell(0, 1, 0, 12);
        due("x is 0 by 12", t.check(), 0);
        t.off(1, 1, 0);
        due("it is not OFF, and not proved", t.check(), 4);
    }

    private static void gatesHold() {
        of(16, "2 a gate that is not OFF does not hold");
        DawnTable t = read("gate A most 99;gate B least 99;wish 0 part 12 A 9;wish 0 part 12 B 9;");
        t.tell(0, 0, 11, 1);
        t.tell(0, 1, 11, 1);
        due("both are met exactly", t.check(), 0);
        t.tell(0, 0, 133, 12);
        due("most: a twelfth above", t.check(), 2);
        t.off(0, 0, 1);
        due("it is OFF", t.check(), 0);
        t.off(0, 0, 0);
        t.tell(0, 0, 131, 12);
        due("most: a twelfth below", t.check(), 0);
        t.tell(0, 1, 131, 12);
        due("least: a twelfth below", t.check(), 2);
        t.off(0, 1, 1);
        due("it is OFF", t.check(), 0);
        t.off(0, 1, 0);
        t.tell(0, 1, 133, 12);
        due("least: a twelfth above", t.check(), 0);
        t.jam(1, 0);
        t.jam(0, 0);
        due("most 0", t.check(), 2);
        t.tell(0, 0, 0, 1);
        due("most 0, met exactly", t.check(), 0);
        t = read("gate A most 1;" + times("wish 0 part 1 A 1;", 4));
        int[][] parts = {{1, 2}, {1, 4}, {1, 6}, {1, 12}};
        for (int w = 0; w < 4; w++) t.tell(0, w, parts[w][0], parts[w][1]);
        due("1/2 + 1/4 + 1/6 + 1/12 is 1", t.check(), 0);
        t.tell(0, 3, 1, 11);
        due("1/11 in place of 1/12", t.check(), 2);
        t.tell(0, 3, 1, 12);
        t.tell(0, 1, 2, 7);
        due("2/7 in place of 1/4", t.check(), 2);
        least(new int[][] {{1, 7}, {5, 8}, {7, 9}, {5, 11}}, 2, 0);
        least(new int[][] {{6, 7}, {3, 8}, {2, 9}, {6, 11}}, 0, 2);
    }

    /** All x together are the 5544th part of one above 2, or below it. */
    private static void least(int[][] x, int ofMost, int ofLeast) {
        DawnTable most = read("gate A most 2;" + times("wish 0 part 1 A 1;", 4));
        DawnTable least = read("gate A least 2;" + times("wish 0 part 1 A 1;", 4));
        for (int w = 0; w < 4; w++) {
            most.tell(0, w, x[w][0], x[w][1]);
            least.tell(0, w, x[w][0], x[w][1]);
        }
        due("most 2, and a little more or less", most.check(), ofMost);
        due("least 2, and a little more or less", least.check(), ofLeast);
    }

    private static void prices() {
        of(16, "3 a PRICE of a most gate is below 0, of a least one above 0, of one that is OFF not 0");
        for (int g = 0; g < 5; g++) {
            for (String way : new String[] {"most", "least"}) {
                String text = "";
                for (int i = 0; i < 5; i++) text += "gate " + (char) ('A' + i) + " " + (i == g ? way : "most") + " 0;";
                DawnTable t = read(text);
                int sign = way.equals("most") ? 1 : -1;
                int[] up = {sign, -sign, 0, 999 * sign, -999 * sign};
                int[] want = {0, 3, 0, 0, 3};
                for (int i = 0; i < 5; i++) {
                    t.tell(1, g, up[i], 12);
                    due("check() with " + up[i] + " by 12 of a gate " + way, t.check(), want[i]);
                    t.off(0, g, 1);
                    due("the same, and it is OFF", t.check(), up[i] == 0 ? 0 : 3);
                    t.off(0, g, 0);
                }
            }
        }
    }

    private static void sums() {
        of(16, "4 WORTH of x is not N times PRICES, and M times REST of wishes that are not OFF, all added");
        DawnTable t = read("gate A most 7;wish 3 part 12 A 7;");
        t.tell(0, 0, 1, 1);
        int[][] price = {{3, 7}, {4, 9}, {5, 12}, {5, 11}, {4, 10}, {0, 1}};
        for (int[] p : price) {
            t.tell(1, 0, p[0], p[1]);
            due("check() with a price " + p[0] + " by " + p[1], t.check(), p[1] == 7 ? 0 : 4);
        }
        t.tell(1, 0, 3, 7);
        t.tell(0, 0, 11, 12);
        due("a twelfth less of x", t.check(), 4);
        t.tell(0, 0, 1, 1);
        t.jam(0, 8);
        due("N is one more", t.check(), 4);
        t.tell(0, 0, 8, 7);
        due("x has it", t.check(), 0);
        t = read("gate A most 7;wish 3 part 1 A 7;wish 9 part 12;");
        t.off(1, 1, 1);
        t.tell(0, 0, 1, 1);
        due("a wish that is OFF has no REST in it", t.check(), 0);
        t.off(1, 1, 0);
        due("and has, if it is not", t.check(), 4);
        t.tell(0, 1, 12, 1);
        due("until it is cleared", t.check(), 0);
        t = read("gate A least 2;gate B most 12;wish 1 part 12 A 2 B 1;wish 3 part 12 B 1;");
        t.tell(0, 0, 1, 1);
        t.tell(0, 1, 11, 1);
        t.tell(1, 0, -1, 1);
        t.tell(1, 1, 3, 1);
        due("a price below 0", t.check(), 0);
        t.tell(1, 0, -13, 12);
        due("a twelfth below it", t.check(), 4);
        t.tell(1, 0, -11, 12);
        due("a twelfth above it", t.check(), 4);
    }

    private static void elevenths() {
        of(16, "4 WORTH of x is not N times PRICES, and M times REST of wishes that are not OFF, all added");
        // 4 x + y = 1 = x + 3 y, and 4 p + q = 1 = p + 3 q
        DawnTable t = read("gate A most 1;gate B most 1;wish 1 part 12 A 4 B 1;wish 1 part 12 A 1 B 3;");
        for (int what = 0; what < 2; what++) {
            t.tell(what, 0, 2, 11);
            t.tell(what, 1, 3, 11);
        }
        due("proved by elevenths", t.check(), 0);
        t.tell(1, 1, 2, 7);
        due("2/7 in place of 3/11", t.check(), 4);
        t.tell(1, 1, 3, 11);
        t.tell(0, 0, 1, 6);
        due("x of 1/6 in place of 2/11", t.check(), 4);
        // 3 x + y = 1 = 2 x + 3 y, so x = 2/7 and y = 1/7; 3 p + 2 q = 8, p + 3 q = 5, so p = 2 and q = 1
        t = read("gate A most 1;gate B most 1;wish 8 part 12 A 3 B 2;wish 5 part 12 A 1 B 3;");
        t.tell(0, 0, 2, 7);
        t.tell(0, 1, 1, 7);
        t.tell(1, 0, 2, 1);
        t.tell(1, 1, 1, 1);
        due("proved by sevenths", t.check(), 0);
        t.tell(0, 1, 1, 8);
        due("1/8 in place of 1/7", t.check(), 4);
        t.tell(0, 1, 1, 6);
        due("1/6 in place of 1/7", t.check(), 2);
    }

    /** Prices that are the 27720th part of one above WORTH, or below it: no two told sums can lie closer. */
    private static void closest() {
        of(16, "4 WORTH of x is not N times PRICES, and M times REST of wishes that are not OFF, all added");
        String gates = "gate A most 1;gate B most 1;gate C most 1;gate D most 1;gate E most 1;";
        int[] down = {5, 7, 8, 9, 11};
        int[][] up = {{4, 3, 1, 5, 1}, {1, 4, 7, 4, 10}, {1, 4, 7, 4, 10}};
        String[] wish = {"wish 2 part 1", "wish 3 part 1", "wish 3 part 2"};
        int[] want = {4, 0, 4};
        for (int i = 0; i < 3; i++) {
            DawnTable t = read(gates + wish[i] + " A 1 B 1 C 1 D 1 E 1;");
            t.tell(0, 0, 1, 1);
            for (int g = 0; g < 5; g++) t.tell(1, g, up[i][g], down[g]);
            due("check() of " + wish[i], t.check(), want[i]);
        }
    }

    private static void greatPrices() {
        of(16, "all added; 0: it is BEST of parts, that is proved.");
        DawnTable t = read("gate A most 99;gate B least 99;wish 5 part 11 A 9 B 9;");
        t.tell(0, 0, 11, 1);
        t.tell(1, 0, 999, 1);
        t.tell(1, 1, -999, 1);
        due("the greatest prices against one another", t.check(), 0);
        t.tell(1, 1, -998, 1);
        due("one less", t.check(), 4);
        t = read("gate A most 99;gate B most 99;gate C most 99;gate D most 99;gate E most 99;"
            + times("wish 99 part 12 A 9 B 9 C 9 D 9 E 9;", 4));
        for (int g = 0; g < 5; g++) t.tell(1, g, 999, 1);
        due("all of the greatest", t.check(), 4);
        t = read("gate A least 0;gate B least 0;gate C least 0;gate D least 0;gate E least 0;"
            + times("wish 99 part 12 A 9 B 9 C 9 D 9 E 9;", 4));
        for (int g = 0; g < 5; g++) t.tell(1, g, -999, 1);
        for (int w = 0; w < 4; w++) t.tell(0, w, 12, 1);
        due("all of the least", t.check(), 4);
        for (int g = 0; g < 5; g++) t.tell(1, g, 0, 1);
        due("none", t.check(), 0);
    }

    private static void rest() {
        of(16, "REST of a wish: WORTH, less USES times PRICES, 0 at least.");
        DawnTable t = read("gate A most 0;wish 3 part 12 A 1;");
        int[] up = {35, 36, 37, 999};
        int[] want = {4, 0, 0, 0};
        for (int i = 0; i < 4; i++) {
            t.tell(1, 0, up[i], 12);
            due("check() with a price " + up[i] + " by 12", t.check(), want[i]);
        }
        t = read("gate A most 0;gate B most 0;wish 9 part 12 A 2 B 3;");
        t.tell(1, 0, 3, 1);
        t.tell(1, 1, 1, 1);
        due("USES of both gates", t.check(), 0);
        t.tell(1, 1, 11, 12);
        due("a twelfth less at one", t.check(), 4);
    }

    private static void order() {
        of(16, "CHECK tells the first of these");
        DawnTable t = read("gate A least 4;gate B most 8;wish 3 part 8 B 1;wish 1 part 8 A 1 B 1;");
        t.tell(0, 0, 9, 1);
        t.tell(1, 0, 2, 1);
        t.tell(1, 1, -3, 1);
        due("all four", t.check(), 1);
        t.tell(0, 0, 4, 1);
        due("2, 3 and 4", t.check(), 2);
        t.tell(0, 1, 4, 1);
        due("3 and 4", t.check(), 3);
        t.tell(1, 0, -2, 1);
        due("3 still", t.check(), 3);
        t.tell(1, 1, 2, 1);
        due("4", t.check(), 4);
        t.tell(1, 1, 3, 1);
        due("none", t.check(), 0);
        t.tell(0, 1, -1, 12);
        due("1 of the last wish", t.check(), 1);
        due("an empty table", new DawnTable().check(), 0);
    }

    private static void proved() {
        of(16, "0: it is BEST of parts, that is proved. (KINDS are not looked at.)");
        for (String kind : new String[] {"part", "whole", "all"}) {
            DawnTable t = read("gate A most 5;wish 3 " + kind + " 12 A 2;");
            t.tell(0, 0, 5, 2);
            t.tell(1, 0, 3, 2);
            due("half of one, of " + kind, t.check(), 0);
            t.tell(0, 0, 2, 1);
            due("less, of " + kind, t.check(), 4);
        }
    }
}
