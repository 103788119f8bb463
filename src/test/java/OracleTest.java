import java.util.Random;

/** Long runs of calls on random tables, DawnTable against the oracle: promises 1 to 23 all together. */
public final class OracleTest {
    private static final String[] KINDS = {"part", "whole", "all"};
    private static final String[] SCRAPS = {"gate ", "most ", "least ", "wish ", "part ", "whole ", "all ", ";", " ", "A ",
        "B ", "C ", "F ", "0 ", "07 ", "5", "12 ", "13 ", "99 ", "100 ", "1000 ", "9", "gates ", "x", "\t", "\n", "-1 ",
        "G", "a", "wish 3 all 2;", "gate E least 0;", "A1", "\u00e9"};
    private static int wrong = 0;
    private static long calls = 0;

    private final Random random;
    private final StringBuilder log = new StringBuilder();
    private DawnTable real = new DawnTable();
    private Oracle oracle = new Oracle();
    private int left = 512;

    private OracleTest(long seed) {
        random = new Random(seed);
        log.append("seed ").append(seed).append('\n');
    }

    public static void main(String[] args) {
        long first = args.length > 1 ? Long.parseLong(args[1]) : 1;
        int runs = args.length > 2 ? Integer.parseInt(args[2]) : 250;
        for (int i = 0; i < runs && wrong < 5; i++) new OracleTest(first + i).run();
        System.out.println(calls + " calls against the oracle, " + wrong + " wrong");
        if (wrong != 0) System.exit(1);
    }

    private void due(String call, long got, long want) {
        log.append(call).append(" = ").append(got).append('\n');
        calls++;
        left--;
        if (got == want) return;
        wrong++;
        System.out.println(log + "  but due is " + want);
    }

    private int upTo(int n) {
        return random.nextInt(n + 1);
    }

    private void run() {
        for (int part = 0; part < 3 && wrong == 0; part++) {
            if (upTo(3) == 0) scraps();
            enter(table());
            due("table()", real.table(), oracle.table());
            for (int i = 0; i < 40 && left > 60 && wrong == 0; i++) call();
        }
    }

    private void scraps() {
        StringBuilder text = new StringBuilder();
        if (upTo(1) == 0) {
            text.append(table());
            if (text.length() > 0) text.delete(upTo(text.length() - 1), text.length());
        }
        for (int i = upTo(6); i >= 0; i--) text.append(SCRAPS[random.nextInt(SCRAPS.length)]);
        enter(text.toString());
        due("table()", real.table(), oracle.table());
        if (upTo(1) == 0) due("count(4)", real.count(4), oracle.count(4));
        due("clear()", real.clear(), oracle.clear());
    }

    private void enter(String text) {
        for (int at = 0; at < text.length(); ) {
            int n = Math.min(upTo(3) == 0 ? 1 + upTo(7) : 8, text.length() - at);
            long v = random.nextLong();
            for (int i = 0; i < n; i++) v = v << 8 | text.charAt(at + i) & 255;
            at += n;
            due("type(" + text.substring(at - n, at) + ")", real.type(v, n), oracle.type(v, n));
        }
    }

    private String table() {
        int letters = upTo(3) == 0 ? 31 : 1 + random.nextInt(31);
        int small = upTo(1) == 0 ? upTo(9) : 99;
        int leastOf = 1 + upTo(3);
        int style = upTo(3);
        StringBuilder text = new StringBuilder();
        boolean[] told = new boolean[5];
        int start = random.nextInt(5);
        for (int i = 0; i < 5; i++) {
            int g = (start + 2 * i) % 5;
            if ((letters >> g & 1) == 0) continue;
            told[g] = true;
            boolean least = upTo(leastOf) == 0;
            int n = upTo(least ? 20 : upTo(1) == 0 ? 30 : 99);
            text.append("gate ").append((char) ('A' + g)).append(least ? " least " : " most ").append(n).append(';');
        }
        int wishes = upTo(5) == 0 ? upTo(4) : 3 + upTo(1);
        for (int w = 0; w < wishes; w++) {
            int kind = style == 3 ? upTo(2) : style == 2 ? upTo(1) : style == 1 ? 1 + upTo(1) : 0;
            int most = kind == 1 && style == 1 ? 1 + upTo(4) : 1 + upTo(11);
            text.append("wish ").append(upTo(small)).append(' ').append(KINDS[kind]).append(' ').append(most);
            for (int g = 4; g >= 0; g--) {
                if (told[g] && upTo(3) > 0) {
                    text.append(upTo(5) == 0 ? "  " : " ").append((char) ('A' + g)).append(' ').append(1 + upTo(8));
                }
            }
            text.append(';');
        }
        return text.length() > 300 ? "" : text.toString();
    }

    private int odd(int n) {
        return upTo(15) == 0 ? upTo(4) - 2 + upTo(8) : upTo(n);
    }

    private void call() {
        int w = odd(3);
        int g = odd(4);
        int s = odd(1);
        int t = odd(1);
        int v = upTo(20) == 0 ? upTo(400) - 150 : upTo(40);
        switch (upTo(23)) {
            case 0: due("gate " + g + " " + w, real.gate(g, w), oracle.gate(g, w)); break;
            case 1: due("wish " + w + " " + g, real.wish(w, g), oracle.wish(w, g)); break;
            case 2: due("uses " + w + " " + g, real.uses(w, g), oracle.uses(w, g)); break;
            case 3: due("jam " + g + " " + v, real.jam(g, v), oracle.jam(g, v)); break;
            case 4: due("off " + s + " " + w + " " + t, real.off(s, w, t), oracle.off(s, w, t)); break;
            case 5:
            case 6: due("best " + w + " " + s + " " + t, real.best(w, s, t), oracle.best(w, s, t)); break;
            case 7: due("worth " + s + " " + t, real.worth(s, t), oracle.worth(s, t)); break;
            case 8: due("gap " + s, real.gap(s), oracle.gap(s)); break;
            case 9:
            case 10: due("more " + g + " " + s, real.more(g, s), oracle.more(g, s)); break;
            case 11: due("clash " + s, real.clash(s), oracle.clash(s)); break;
            case 12:
            case 13: tellOne(s, w, g, t); break;
            case 14: due("check", real.check(), oracle.check()); break;
            case 15: due("reach " + w, real.reach(w), oracle.reach(w)); break;
            case 16: due("fair " + w + " " + s, real.fair(w, s), oracle.fair(w, s)); break;
            case 17: due("lie " + w, real.lie(w), oracle.lie(w)); break;
            case 18: due("core", real.core(), oracle.core()); break;
            case 19: due("labour " + g, real.labour(g), oracle.labour(g)); break;
            case 20: due("count " + g, real.count(g), oracle.count(g)); break;
            case 21: due("trace", real.trace(), oracle.trace()); break;
            case 22: proveBest(); break;
            default: due("fair " + w + " " + s, real.fair(w, s), oracle.fair(w, s)); break;
        }
    }

    private void tellOne(int what, int w, int g, int wild) {
        int i = what == 1 ? g : w;
        int up = wild == 1 ? odd(6) : upTo(2100) - 1050;
        int down = upTo(9) == 0 ? odd(13) : 1 + upTo(1);
        due("tell " + what + " " + i + " " + up + " " + down, real.tell(what, i, up, down), oracle.tell(what, i, up, down));
        due("check", real.check(), oracle.check());
    }

    /** x of LOOSE, with what one more at each gate is worth as PRICES, is often proved by them. */
    private void proveBest() {
        for (int w = 0; w < real.count(1); w++) tell(0, w, real.best(w, 1, 0), real.best(w, 1, 1));
        due("check", real.check(), oracle.check());
        for (int g = 0; g < real.count(0); g++) tell(1, g, real.more(g, 0), real.more(g, 1));
        due("check", real.check(), oracle.check());
    }

    private void tell(int what, int i, long up, long down) {
        int high = up == DawnTable.NO ? 0 : (int) up;
        int low = down == DawnTable.NO ? 1 : (int) down;
        due("tell " + what + " " + i + " " + high + " " + low, real.tell(what, i, high, low), oracle.tell(what, i, high, low));
    }
}
