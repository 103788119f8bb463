/** Promises 1 to 4: a new object, THE TEXT and where it is at FAULT. */
final class TextEdges extends Sentence {
    private static final String FIVE_GATES = "gate E least 99;gate D least 99;gate C least 99;gate B least 99;gate A least 99;";
    private static final String LONG_WISH = "wish 99 whole 12 A 9 B 9 C 9 D 9 E 9;";
    private static final String[] WORDS = {"gate", "most", "least", "wish", "part", "whole", "all"};

    static void run() {
        newObject();
        newObjectBesideAnother();
        type();
        typeFull();
        clear();
        fullTexts();
        emptyTexts();
        blanks();
        tokens();
        items();
        letters();
        limits();
        worths();
        amounts();
        useNumbers();
        usesOfAWish();
        gatesToldAhead();
        wishes();
        words();
        everyTokenAtEveryPlace();
        numbersThatWrapAround();
        firstByte();
        firstFault();
        earlyEnds();
        faultChangesNothing();
        tableAnew();
        numbering();
    }

    /** At FAULT at the same TOKEN, be it the first item or a later one. */
    private static void faultAnywhere(String text, int at) {
        String ahead = "wish 1 all 1;";
        fault(text, at);
        fault(ahead + text, ahead.length() + at);
        fault(ahead + ahead + ahead + text, 3 * ahead.length() + at);
    }

    private static void newObject() {
        of(1, "Nothing is there.");
        of(1, "(At first there is nothing.)");
        DawnTable t = new DawnTable();
        for (int what = 0; what < 5; what++) due("count(" + what + ")", t.count(what), 0);
        due("gate(0, 0)", t.gate(0, 0), BAD);
        due("wish(0, 0)", t.wish(0, 0), BAD);
        due("uses(0, 0)", t.uses(0, 0), BAD);
        due("jam(0, 0)", t.jam(0, 0), BAD);
        due("off(0, 0, 0)", t.off(0, 0, 0), BAD);
        due("off(1, 0, 0)", t.off(1, 0, 0), BAD);
        due("tell(0, 0, 0, 1)", t.tell(0, 0, 0, 1), BAD);
        due("tell(1, 0, 0, 1)", t.tell(1, 0, 0, 1), BAD);
        due("best(0, 0, 0)", t.best(0, 0, 0), NO);
        due("more(0, 0)", t.more(0, 0), NO);
        due("fair(0, 0)", t.fair(0, 0), NO);
        due("reach(0)", t.reach(0), BAD);
        due("lie(0)", t.lie(0), BAD);
        for (int loose = 0; loose < 2; loose++) fraction("worth", t.worth(loose, 0), t.worth(loose, 1), 0, 1);
        fraction("gap", t.gap(0), t.gap(1), 0, 1);
        for (int what = 0; what < 2; what++) due("clash(" + what + ")", t.clash(what), NONE);
        due("check()", t.check(), 0);
        due("core()", t.core(), 0);
        due("trace()", t.trace(), 0);
        due("clear()", t.clear(), 0);
        due("table()", t.table(), 0);
    }

    private static void newObjectBesideAnother() {
        of(1, "Nothing is there.");
        DawnTable one = read("gate A most 5;wish 3 part 4 A 1;");
        one.off(0, 0, 1);
        one.tell(0, 0, -1, 1);
        one.labour(3);
        enter(one, "gate");
        String was = everything(one);
        DawnTable two = new DawnTable();
        due("all of a new object beside one that is used", everything(two),
            "count 0 0 0 0 0; worth 0/1; loose 0/1; check 0; trace 0");
        enter(two, "gate B least 7;");
        two.table();
        two.labour(0);
        due("all of the one that was used before", everything(one), was);
    }

    private static void type() {
        of(2, "The lowest n (1 .. 8) bytes of v, the highest of them first, come to THE TEXT: how many it has.");
        for (int n = 1; n <= 8; n++) {
            DawnTable t = new DawnTable();
            due("type(-1, " + n + ")", t.type(-1L, n), n);
            due("count(4)", t.count(4), n);
            due("the next byte", t.type(0, 1), n + 1);
        }
        for (int n : new int[] {0, 9, -1, -8}) due("type(0, " + n + ")", new DawnTable().type(0, n), BAD);
        for (int n : FAR) due("type(0, " + n + ")", new DawnTable().type(0, n), BAD);
        for (int n : FAR) due("type(0, " + (n + 1) + ")", new DawnTable().type(0, n + 1), BAD);
        DawnTable t = new DawnTable();
        String text = "gate A most 5;";
        for (int i = 0; i < text.length(); i++) t.type(0xfedcba9876543200L | text.charAt(i), 1);
        due("one byte each, with others above them", t.table(), 1);
        // "gate D m" and "ost 8;"; the bytes above the lowest six are not looked at
        due("the highest first", t.type(0x676174652044206dL, 8), 8);
        due("the lowest six", t.type(0xffff6f737420383bL, 6), 14);
        due("table()", t.table(), 1);
        due("letter", t.gate(0, 0), 3);
        due("N", t.gate(0, 2), 8);
        // a byte above 127 at the top of v is a byte like others: it is the first one at FAULT
        t.type(0x8020202020202020L, 8);
        due("table()", t.table(), -10);
        t.clear();
        t.type(0x2020202020202080L, 8);
        due("table()", t.table(), -17);
    }

    private static DawnTable blanksOf(int bytes) {
        return typed(times(" ", bytes));
    }

    private static void typeFull() {
        of(2, "THE TABLE is a text (300 bytes at most)");
        for (int n = 1; n <= 8; n++) {
            DawnTable t = blanksOf(300 - n);
            due("type " + n + " up to 300", t.type(0x2020202020202020L, n), 300);
            due("one more", t.type(0x20, 1), FULL);
            due("eight more", t.type(0x20, 8), FULL);
            due("all are blanks", t.table(), 0);
            t = blanksOf(301 - n);
            due("type " + n + " up to 301", t.type(0x6161616161616161L, n), FULL);
            due("count(4) after FULL", t.count(4), 301 - n);
            due("nothing came to the text", t.table(), 0);
        }
        of(2, "Refused, and nothing changes, the first of these: BAD (a number is not as told, or there is no such thing), "
            + "STATE (as told), FULL.");
        DawnTable t = blanksOf(300);
        for (int n : new int[] {0, 9, -1, Integer.MIN_VALUE, Integer.MAX_VALUE}) due("type(0, " + n + ")", t.type(0, n), BAD);
        due("type(0, 1)", t.type(0, 1), FULL);
        due("count(4)", t.count(4), 300);
    }

    private static void clear() {
        of(3, "THE TEXT is empty: how many bytes it had.");
        DawnTable t = blanksOf(300);
        due("clear() of a full text", t.clear(), 300);
        due("count(4)", t.count(4), 0);
        due("clear() of an empty text", t.clear(), 0);
        due("there is room again", t.type(0, 8), 8);
        due("clear()", t.clear(), 8);
        due("type(.., 1)", t.type(' ', 1), 1);
        due("the bytes that were cleared are gone", t.table(), 0);
        t = read("gate A most 5;wish 3 part 4 A 1;");
        t.off(1, 0, 1);
        t.tell(0, 0, 1, 1);
        t.labour(0);
        String was = everything(t);
        enter(t, "gate B");
        due("clear()", t.clear(), 6);
        due("THE TABLE stays", everything(t), was);
    }

    private static void fullTexts() {
        of(4, "THE TABLE is a text (300 bytes at most)");
        String table = FIVE_GATES + times(LONG_WISH, 4);
        String blanks = times(" ", 300 - table.length());
        for (String text : new String[] {table + blanks, blanks + table, FIVE_GATES + blanks + times(LONG_WISH, 4),
            table.substring(0, table.length() - 1) + blanks + ";"}) {
            DawnTable t = stands(text, 9);
            due("gates", t.count(0), 5);
            due("wishes", t.count(1), 4);
            due("the last use", t.uses(3, 4), 9);
        }
        fault(table.substring(0, table.length() - 1) + blanks + " ", 300);
        fault(times(" ", 299) + "x", 299);
        fault(times(" ", 299) + "A", 299);
        fault(times(" ", 299) + "7", 299);
        fault(times(" ", 299) + ";", 299);
        fault(times(" ", 296) + "gate", 300);
        fault(times(";", 300), 0);
        fault(times("a", 300), 0);
        fault(times("gate", 75), 0);
        fault("gate A most " + times("1", 288), 12);
        fault("gate A most " + times("0", 288), 12);
        fault("gate A " + times("m", 293), 7);
        fault("gate A most 5" + times(";", 287), 14);
    }

    private static void emptyTexts() {
        of(4, "THE TEXT becomes THE TABLE (nothing is OFF), and is empty then: how many ITEMS.");
        for (String text : new String[] {"", " ", times(" ", 300)}) {
            DawnTable t = read("gate A most 5;wish 3 part 4 A 1;");
            enter(t, text);
            due("table() of blanks", t.table(), 0);
            due("all", everything(t), "count 0 0 0 0 0; worth 0/1; loose 0/1; check 0; trace 0");
        }
        stands("gate A most 0;", 1);
        stands("wish 0 part 1;", 1);
    }

    private static void blanks() {
        of(4, "read byte by byte, blanks (32) between TOKENS");
        stands("   gate   A   most   5   ;   wish   6   all   7   A   8   ;   ", 2);
        for (int b = 0; b < 256; b++) {
            char c = (char) b;
            // after "gate": a blank parts two TOKENS, a small letter makes another word, a letter is the gate's
            boolean small = c >= 'a' && c <= 'z';
            boolean letter = c >= 'A' && c <= 'E';
            if (c == ' ') stands("gate" + c + "A most 5;", 1);
            else fault("gate" + c + "A most 5;", small ? 0 : letter ? 5 : 4);
            // within a NUMBER: a blank makes two of it, and the second can't stand there
            boolean digit = c >= '0' && c <= '9';
            if (!digit) fault("gate A most 5" + c + "5;", c == ' ' ? 14 : c == ';' ? 14 : 13);
        }
        of(4, "of a byte that begins none");
        for (int b = 0; b < 256; b++) {
            char c = (char) b;
            if (c == ' ') continue;
            fault("" + c, 0);
            fault("  " + c, 2);
            fault("gate A most 5;" + c, 14);
        }
    }

    private static void tokens() {
        of(4, "TOKENS are words of letters a .. z, A .. E, NUMBERS (no 0 ahead of others) and ; .");
        for (String word : new String[] {"a", "z", "az", "za", "gatea", "gatez", "agate", "zgate"}) fault(word + " A most 5;", 0);
        for (String word : new String[] {"`gate", "{gate", "@gate", "[gate", "Zgate"}) fault(word + " A most 5;", 0);
        for (String end : new String[] {"`", "{", "@", "[", "Z", "F", "/", ":", "<"}) {
            fault("gate" + end + "A most 5;", 4);
            fault("gate A" + end + " most 5;", 6);
            fault("gate A most" + end + "5;", 11);
            fault("gate A most 5" + end + ";", 13);
        }
        for (int n = 0; n <= 9; n++) {
            due("N", stands("gate A most " + n + ";", 1).gate(0, 2), n);
            fault("gate A most 0" + n + ";", 12);
            if (n > 0) due("N", stands("gate A most " + n + "0;", 1).gate(0, 2), 10 * n);
        }
    }

    private static void items() {
        of(4, "ITEMS, each ended by ;");
        fault("gate A most 5", 13);
        fault("gate A most 5 gate B most 5;", 14);
        fault("gate A most 5 wish 6 part 7;", 14);
        fault("wish 6 part 7", 13);
        fault("wish 6 part 7 wish 6 part 7;", 14);
        fault("wish 6 part 7 gate A most 5;", 14);
        fault(";", 0);
        fault("gate A most 5;;", 14);
        fault("gate A most 5; ;", 15);
        fault("wish 6 part 7;;", 14);
        of(4, "and is empty then: how many ITEMS");
        String text = "";
        for (int i = 0; i < 9; i++) {
            text += i % 2 == 0 ? "gate " + (char) ('A' + i / 2) + " most 5;" : "wish 6 part 7;";
            stands(text, i + 1);
        }
    }

    private static void letters() {
        of(4, "(G a letter A ..");
        of(4, "E, each once; N 0 .. 99)");
        for (int letter = 0; letter < 5; letter++) {
            char c = (char) ('A' + letter);
            due("gate(0, 0)", stands("gate " + c + " least 5;", 1).gate(0, 0), letter);
            fault("gate " + c + " most 5;gate " + c + " most 5;", 19);
            fault("gate " + c + " most 5;gate " + c + " least 5;", 19);
        }
        for (char c : new char[] {'@', 'F', 'G', 'Z', '[', '`', 'a', 'e', '{', '0', '1', ';'}) fault("gate " + c + " most 5;", 5);
        fault("gate AB most 5;", 6);
        fault("gate A B most 5;", 7);
        String five = "gate C most 1;gate A most 1;gate E most 1;gate B most 1;gate D most 1;";
        due("five gates", stands(five, 5).count(0), 5);
        for (char c = 'A'; c <= 'F'; c++) fault(five + "gate " + c + " most 1;", 75);
        of(4, "(a gate that was told");
        fault("gate A most 5;wish 6 part 7;gate A most 5;", 33);
    }

    private static void limits() {
        of(4, "E, each once; N 0 .. 99)");
        for (String way : new String[] {"most ", "least "}) {
            int at = 7 + way.length();
            for (int n = 0; n <= 99; n++) due("N", stands("gate A " + way + n + ";", 1).gate(0, 2), n);
            for (String n : new String[] {"100", "101", "999", "1000", "00", "01", "099"}) faultAnywhere("gate A " + way + n + ";", at);
            for (String n : new String[] {"-1", "-0", "+1", "x", "A", ";", "1.", ".5"}) {
                faultAnywhere("gate A " + way + n + ";", n.equals("1.") ? at + 1 : at);
            }
        }
        due("whether it is least", read("gate A most 0;").gate(0, 1), 0);
        due("whether it is least", read("gate A least 0;").gate(0, 1), 1);
    }

    private static void worths() {
        of(4, "W 0 .. 99 (WORTH)");
        for (int n = 0; n <= 99; n++) due("WORTH", stands("wish " + n + " all 1;", 1).wish(0, 0), n);
        for (String n : new String[] {"100", "101", "999", "1000", "00", "01", "099", "-1", "A", ";", "part"}) {
            faultAnywhere("wish " + n + " all 1;", 5);
        }
    }

    private static void amounts() {
        of(4, "KIND part, whole or all, M 1 .. 12.");
        String[] kinds = {"part", "whole", "all"};
        for (int kind = 0; kind < 3; kind++) {
            String ahead = "wish 5 " + kinds[kind] + " ";
            for (int m = 1; m <= 12; m++) {
                DawnTable t = stands(ahead + m + ";", 1);
                due("KIND", t.wish(0, 1), kind);
                due("M", t.wish(0, 2), m);
            }
            for (String m : new String[] {"0", "13", "99", "100", "999", "1000", "00", "01", "012", "-1", "A", ";"}) {
                faultAnywhere(ahead + m + ";", ahead.length());
            }
        }
    }

    private static void useNumbers() {
        of(4, "USES (0 .. 5): a letter and a NUMBER 1 .. 9 each");
        String ahead = "gate A most 5;wish 5 part 3 A ";
        for (int n = 1; n <= 9; n++) due("uses(0, 0)", stands(ahead + n + ";", 2).uses(0, 0), n);
        for (String n : new String[] {"0", "10", "11", "99", "100", "999", "1000", "00", "01", "09", "-1", "A", ";"}) {
            faultAnywhere(ahead + n + ";", ahead.length());
        }
    }

    private static void usesOfAWish() {
        of(4, "USES (0 .. 5)");
        String gates = "gate A most 1;gate B most 1;gate C most 1;gate D most 1;gate E most 1;";
        String text = gates + "wish 5 part 3";
        for (int n = 0; n <= 5; n++) {
            DawnTable t = stands(text + ";", 6);
            for (int g = 0; g < 5; g++) due("uses(0, " + g + ")", t.uses(0, g), g < n ? g + 1 : 0);
            text += n < 5 ? " " + (char) ('A' + n) + " " + (n + 1) : "";
        }
        for (char c = 'A'; c <= 'F'; c++) fault(text + " " + c + " 1;", text.length() + 1);
        of(4, "(of gates told ahead, each once a wish)");
        fault(gates + "wish 5 part 3 B 1 B 1;", 88);
        fault(gates + "wish 5 part 3 B 1 A 2 B 1;", 92);
        stands(gates + "wish 5 part 3 B 1;wish 5 part 3 B 1;", 7);
        of(4, "or twice in a wish");
        fault(gates + "wish 5 part 3 E 9 E 9;", 88);
    }

    private static void gatesToldAhead() {
        of(4, "a letter of one that was not");
        for (char c = 'A'; c <= 'E'; c++) {
            fault("wish 5 part 3 " + c + " 1;", 14);
            fault("wish 5 part 3 " + c + " 1;gate " + c + " most 5;", 14);
            if (c != 'C') fault("gate C most 5;wish 5 part 3 " + c + " 1;", 28);
            stands("gate " + c + " most 5;wish 5 part 3 " + c + " 1;", 2);
        }
        due("told between wishes", stands("wish 1 all 1;gate D most 1;wish 1 all 1 D 7;", 3).uses(1, 0), 7);
    }

    private static void wishes() {
        of(4, "4 wishes at most.");
        String four = times("wish 1 all 1;", 4);
        for (int n = 0; n <= 4; n++) due("count(1)", stands(times("wish 1 all 1;", n), n).count(1), n);
        due("a gate after four wishes", stands(four + "gate A most 1;", 5).count(0), 1);
        of(4, "a 5th wish");
        fault(four + "wish 1 all 1;", 52);
        fault(four + "wish", 52);
        fault(four + " wish 100 none", 53);
        fault(four + "gate A most 1;wish 1 all 1;", 66);
    }

    private static void words() {
        of(4, "a word that is none of gate, most, least, wish, part, whole, all");
        for (String word : WORDS) {
            String ahead = word.equals("gate") || word.equals("wish") ? ""
                : word.equals("most") || word.equals("least") ? "gate A " : "wish 5 ";
            String behind = word.equals("gate") ? " A most 5;" : word.equals("wish") ? " 5 all 5;" : " 5;";
            stands(ahead + word + behind, 1);
            for (int i = 0; i < word.length(); i++) {
                String left = word.substring(0, i);
                String right = word.substring(i + 1);
                faultAnywhere(ahead + left + right + behind, ahead.length());
                faultAnywhere(ahead + left + (char) (word.charAt(i) + 1) + right + behind, ahead.length());
                faultAnywhere(ahead + left + (char) (word.charAt(i) - 1) + right + behind, ahead.length());
                faultAnywhere(ahead + left + word.charAt(i) + word.charAt(i) + right + behind, ahead.length());
                faultAnywhere(ahead + left + (char) (word.charAt(i) - 32) + right + behind, ahead.length());
            }
            faultAnywhere(ahead + word + "s" + behind, ahead.length());
            faultAnywhere(ahead + word + word + behind, ahead.length());
        }
    }

    /** What may stand at each place of one text; whatever else comes there is the first TOKEN at FAULT. */
    private static void everyTokenAtEveryPlace() {
        of(4, "the place of the first byte of the first TOKEN that can't stand there");
        String[] text = {"gate", "A", "most", "5", ";", "wish", "6", "part", "7", "A", "8", ";"};
        String[] may = {"gate wish", "A B C D E", "most least", "0 1 9 10 12 13 99", ";", "gate wish", "0 1 9 10 12 13 99",
            "part whole all", "1 9 10 12", "A ;", "1 9", ";"};
        String[] tokens = {"gate", "most", "least", "wish", "part", "whole", "all", "A", "B", "C", "D", "E", "F", ";", "0", "1",
            "9", "10", "12", "13", "99", "100", "999", "1000", "00", "01", "x", "gates", "a", ",", "-", "\t", "\u00a0", "\u00ff"};
        for (int place = 0; place < text.length; place++) {
            String ahead = "";
            for (int i = 0; i < place; i++) ahead += text[i] + " ";
            for (String token : tokens) {
                if ((" " + may[place] + " ").contains(" " + token + " ")) continue;
                fault(ahead + token, ahead.length());
                fault(ahead + token + " #", ahead.length());
            }
        }
    }

    private static void numbersThatWrapAround() {
        of(4, "a NUMBER above 999 or with a 0 ahead, that TOKEN's");
        // 2 to the 8th, 16th, 31st, 32nd, 33rd, 63rd and 64th, and 5 more
        for (String n : new String[] {"256", "261", "65536", "65541", "2147483648", "2147483653", "4294967296", "4294967301",
            "8589934597", "9223372036854775808", "9223372036854775813", "18446744073709551616", "18446744073709551621"}) {
            faultAnywhere("gate A most " + n + ";", 12);
            faultAnywhere("gate A least " + n + ";", 13);
            faultAnywhere("wish " + n + " all 5;", 5);
            faultAnywhere("wish 5 all " + n + ";", 11);
            faultAnywhere("gate A most 5;wish 5 all 5 A " + n + ";", 29);
        }
        for (String n : new String[] {"00", "05", "000", "0005", "0999", "01000"}) {
            faultAnywhere("gate A most " + n + ";", 12);
            faultAnywhere("wish " + n + " all 5;", 5);
            faultAnywhere("wish 5 all " + n + ";", 11);
            faultAnywhere("gate A most 5;wish 5 all 5 A " + n + ";", 29);
        }
        due("a 0 behind others", stands("gate A most 90;", 1).gate(0, 2), 90);
        due("a 0 alone", stands("gate A most 0;", 1).gate(0, 2), 0);
    }

    private static void firstByte() {
        of(4, "the place of the first byte of the first TOKEN that can't stand there");
        for (int blanks = 0; blanks < 40; blanks++) {
            fault(times(" ", blanks) + "most", blanks);
            fault(times(" ", blanks) + "1000", blanks);
            fault("gate" + times(" ", blanks) + "1000", 4 + blanks);
            if (blanks > 0) fault("gate" + times(" ", blanks) + "most", 4 + blanks);
        }
    }

    private static void firstFault() {
        of(4, "the first TOKEN that can't stand there");
        fault("part 1 #", 0);
        fault("gate A gate #", 7);
        fault("gate A most 100;gate A most 100;", 12);
        fault("gate A most 5;gate A most 5;gates", 19);
        fault("# part", 0);
        fault("gate A most 5;wish 5 part 13 F 10", 26);
        fault(times("wish 1 all 1;", 4) + "wish 05", 52);
    }

    private static void earlyEnds() {
        of(4, "the text's length, if it ends too early");
        String text = "gate A most 12;wish 34 whole 10 A 7;";
        for (int end = 0; end <= text.length(); end++) {
            String cut = text.substring(0, end);
            // within a word the cut leaves one that is none of the words
            int word = end > 0 && end < 4 ? 0 : end > 7 && end < 11 ? 7 : end > 15 && end < 19 ? 15 : end > 23 && end < 28 ? 23 : -1;
            if (end == 0 || end == 15 || end == 36) {
                stands(cut, end == 0 ? 0 : end == 15 ? 1 : 2);
                stands(cut + "  ", end == 0 ? 0 : end == 15 ? 1 : 2);
            } else {
                fault(cut, word >= 0 ? word : end);
                fault(cut + "  ", word >= 0 ? word : end + 2);
            }
        }
    }

    private static void faultChangesNothing() {
        of(4, "-10 less FAULT: nothing changes.");
        DawnTable t = read("gate A most 5;gate C least 2;wish 3 part 4 A 1 C 1;wish 4 whole 3 A 2;");
        t.off(0, 1, 1);
        t.off(1, 0, 1);
        t.jam(0, 7);
        t.tell(0, 1, 7, 2);
        t.tell(1, 0, 2, 1);
        t.labour(4);
        enter(t, "gate B most 9;gate D least 8;wish 7 all 6 B 5");
        String was = everything(t);
        due("table()", t.table(), -55);
        due("all", everything(t), was);
        due("table() again", t.table(), -55);
        due("the text goes on", t.type(';', 1), 46);
        due("table()", t.table(), 3);
        due("gate", t.gate(0, 0), 1);
        t.type('x', 1);
        due("a FAULT at 0", t.table(), -10);
        due("gates", t.count(0), 2);
        due("the text stays", t.clear(), 1);
    }

    private static void tableAnew() {
        of(4, "THE TEXT becomes THE TABLE (nothing is OFF), and is empty then");
        DawnTable other = read("gate A most 5;wish 3 whole 4 A 2;");
        due("worth", other.worth(0, 0) * 100 + other.worth(1, 0), 615);
        enter(other, "gate A most 7;wish 3 whole 4 A 2;");
        other.table();
        due("worth anew, asked before and after", other.worth(0, 0) * 100 + other.worth(1, 0), 921);
        String text = "gate A most 5;gate C least 2;wish 3 part 4 A 1 C 1;wish 4 whole 3 A 2;";
        DawnTable t = read(text);
        String was = everything(t);
        for (int i = 0; i < 2; i++) {
            t.off(0, i, 1);
            t.off(1, i, 1);
            t.jam(i, 99);
            t.tell(0, i, 1, 1);
            t.tell(1, i, 1, 1);
        }
        enter(t, text);
        due("table()", t.table(), 4);
        due("all", everything(t), was);
        // the third table uses the first one's room: what was OFF there, and used there, must be gone
        t.off(0, 0, 1);
        t.off(1, 0, 1);
        enter(t, "gate B most 1;");
        due("table()", t.table(), 1);
        enter(t, "gate A most 5;gate B most 5;wish 3 part 4;wish 3 part 4 B 1;");
        due("table()", t.table(), 4);
        due("OFF", t.count(2) + t.count(3), 0);
        due("uses(0, 0)", t.uses(0, 0), 0);
        due("uses(1, 0)", t.uses(1, 0), 0);
        due("table() of nothing", t.table(), 0);
        due("gates", t.count(0), 0);
    }

    private static void numbering() {
        of(4, "Gates are numbered by letters that there are (A .. E, those that are told), wishes as they stand.");
        for (int set = 1; set < 32; set++) {
            String text = "";
            // told from E down to A, so that the order of telling is never that of the numbers
            for (int letter = 4; letter >= 0; letter--) {
                if ((set >> letter & 1) == 1) text += "gate " + (char) ('A' + letter) + " most " + (10 + letter) + ";";
            }
            DawnTable t = read(text);
            int g = 0;
            for (int letter = 0; letter < 5; letter++) {
                if ((set >> letter & 1) == 0) continue;
                due("gate(" + g + ", 0)", t.gate(g, 0), letter);
                due("gate(" + g + ", 2)", t.gate(g, 2), 10 + letter);
                g++;
            }
            due("one past the last", t.gate(g, 0), BAD);
        }
        DawnTable t = read("wish 9 all 1;wish 3 all 1;wish 7 all 1;wish 1 all 1;");
        int[] worths = {9, 3, 7, 1};
        for (int w = 0; w < 4; w++) due("wish(" + w + ", 0)", t.wish(w, 0), worths[w]);
    }
}
