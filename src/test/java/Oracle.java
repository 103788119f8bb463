import java.util.ArrayList;
import java.util.Arrays;
import java.util.HashMap;
import java.util.List;
import java.util.Map;
import java.util.regex.Matcher;
import java.util.regex.Pattern;

/**
 * The document again, written to be plain and not fast: every whole x is tried, every corner of what is left for
 * parts is listed, and REACH and LIE look at every worth. Shares nothing with DawnTable but the document.
 */
final class Oracle {
    static final long NO = -1000000000000000000L;
    static final int BAD = -1, FULL = -3, NONE = -9;

    static final class Gate {
        int letter, n;
        boolean least, off;
        Frac price = Frac.ZERO;
    }

    static final class Wish {
        int worth, kind, m;
        boolean off;
        Frac x = Frac.ZERO;
        final int[] byLetter = new int[5];
    }

    /** A candidate, and its worth where one was asked. */
    record Point(Frac[] x, Frac worth) {
    }

    private final StringBuilder text = new StringBuilder();
    private List<Gate> gates = new ArrayList<>();
    private List<Wish> wishes = new ArrayList<>();
    private final Map<String, List<Frac[]>> corners = new HashMap<>();
    private long traced;

    // ---- the table

    int type(long v, int n) {
        if (n < 1 || n > 8) return BAD;
        if (text.length() + n > 300) return FULL;
        for (int i = n - 1; i >= 0; i--) text.append((char) (v >>> 8 * i & 255));
        return text.length();
    }

    int clear() {
        int had = text.length();
        text.setLength(0);
        return had;
    }

    int table() {
        List<Gate> newGates = new ArrayList<>();
        List<Wish> newWishes = new ArrayList<>();
        int fault = read(newGates, newWishes);
        if (fault >= 0) return -10 - fault;
        newGates.sort((a, b) -> a.letter - b.letter);
        gates = newGates;
        wishes = newWishes;
        text.setLength(0);
        corners.clear();
        return gates.size() + wishes.size();
    }

    private static final Pattern TOKEN = Pattern.compile("[a-z]+|[A-E]|[0-9]+|;");

    /** What may stand after what: each state lists "token>state". */
    private int read(List<Gate> newGates, List<Wish> newWishes) {
        String s = text.toString();
        Matcher m = TOKEN.matcher(s);
        String state = "item";
        Gate gate = null;
        Wish wish = null;
        int letter = -1;
        int at = 0;
        while (true) {
            while (at < s.length() && s.charAt(at) == ' ') at++;
            if (at == s.length()) return state.equals("item") ? -1 : at;
            m.region(at, s.length());
            if (!m.lookingAt()) return at;
            String t = m.group();
            boolean digits = Character.isDigit(t.charAt(0));
            int number = digits && t.matches("0|[1-9][0-9]{0,2}") ? Integer.parseInt(t) : -1;
            int which = t.matches("[A-E]") ? t.charAt(0) - 'A' : -1;
            switch (state) {
                case "item":
                    if (t.equals("gate")) {
                        state = "gate letter";
                        gate = new Gate();
                    } else if (t.equals("wish") && newWishes.size() < 4) {
                        state = "worth";
                        wish = new Wish();
                    } else return at;
                    break;
                case "gate letter":
                    if (which < 0) return at;
                    for (Gate g : newGates) if (g.letter == which) return at;
                    gate.letter = which;
                    state = "way";
                    break;
                case "way":
                    if (!t.equals("most") && !t.equals("least")) return at;
                    gate.least = t.equals("least");
                    state = "n";
                    break;
                case "n":
                    if (number < 0 || number > 99) return at;
                    gate.n = number;
                    state = "gate end";
                    break;
                case "gate end":
                    if (!t.equals(";")) return at;
                    newGates.add(gate);
                    state = "item";
                    break;
                case "worth":
                    if (number < 0 || number > 99) return at;
                    wish.worth = number;
                    state = "kind";
                    break;
                case "kind":
                    wish.kind = List.of("part", "whole", "all").indexOf(t);
                    if (wish.kind < 0) return at;
                    state = "m";
                    break;
                case "m":
                    if (number < 1 || number > 12) return at;
                    wish.m = number;
                    state = "use";
                    break;
                case "use":
                    if (t.equals(";")) {
                        newWishes.add(wish);
                        state = "item";
                        break;
                    }
                    letter = which;
                    boolean there = false;
                    for (Gate g : newGates) there |= g.letter == letter;
                    if (!there || wish.byLetter[letter] != 0) return at;
                    state = "number";
                    break;
                default:
                    if (number < 1 || number > 9) return at;
                    wish.byLetter[letter] = number;
                    state = "use";
            }
            at = m.end();
        }
    }

    private boolean isGate(int g) {
        return g >= 0 && g < gates.size();
    }

    private boolean isWish(int w) {
        return w >= 0 && w < wishes.size();
    }

    private int use(int w, int g) {
        return wishes.get(w).byLetter[gates.get(g).letter];
    }

    int gate(int g, int what) {
        if (!isGate(g) || what < 0 || what > 3) return BAD;
        Gate gate = gates.get(g);
        return new int[] {gate.letter, gate.least ? 1 : 0, gate.n, gate.off ? 1 : 0}[what];
    }

    int wish(int w, int what) {
        if (!isWish(w) || what < 0 || what > 3) return BAD;
        Wish wish = wishes.get(w);
        return new int[] {wish.worth, wish.kind, wish.m, wish.off ? 1 : 0}[what];
    }

    int uses(int w, int g) {
        return isWish(w) && isGate(g) ? use(w, g) : BAD;
    }

    int jam(int g, int v) {
        if (!isGate(g) || v < 0 || v > 99) return BAD;
        int was = gates.get(g).n;
        gates.get(g).n = v;
        return was;
    }

    int off(int what, int i, int off) {
        if (off != 0 && off != 1) return BAD;
        boolean was;
        if (what == 0 && isGate(i)) {
            was = gates.get(i).off;
            gates.get(i).off = off == 1;
        } else if (what == 1 && isWish(i)) {
            was = wishes.get(i).off;
            wishes.get(i).off = off == 1;
        } else return BAD;
        return was ? 1 : 0;
    }

    // ---- clearings

    private int heldGates() {
        int set = 0;
        for (int g = 0; g < gates.size(); g++) if (!gates.get(g).off) set |= 1 << g;
        return set;
    }

    /** All clearings among which BEST must be, whatever the worths are. */
    private List<Frac[]> candidates(boolean loose, int held) {
        StringBuilder key = new StringBuilder(loose ? "loose" : "tight").append(held);
        for (Gate g : gates) key.append(',').append(g.n);
        for (Wish w : wishes) key.append(w.off ? '-' : '+');
        return corners.computeIfAbsent(key.toString(), k -> {
            List<Frac[]> found = new ArrayList<>();
            Frac[] x = new Frac[wishes.size()];
            fix(0, x, loose, held, found);
            return found;
        });
    }

    private void fix(int w, Frac[] x, boolean loose, int held, List<Frac[]> found) {
        if (w == wishes.size()) {
            addCorners(x, held, found);
            return;
        }
        Wish wish = wishes.get(w);
        int kind = loose ? 0 : wish.kind;
        if (wish.off) {
            x[w] = Frac.ZERO;
            fix(w + 1, x, loose, held, found);
        } else if (kind == 0) {
            x[w] = null;
            fix(w + 1, x, loose, held, found);
        } else {
            for (int v = 0; v <= wish.m; v += kind == 2 ? wish.m : 1) {
                x[w] = Frac.of(v, 1);
                fix(w + 1, x, loose, held, found);
            }
        }
        x[w] = null;
    }

    /** Corners: as many bounds and gates are met exactly as there are wishes of parts. */
    private void addCorners(Frac[] x, int held, List<Frac[]> found) {
        List<Integer> open = new ArrayList<>();
        for (int w = 0; w < x.length; w++) if (x[w] == null) open.add(w);
        int k = open.size();
        List<Frac[]> lines = new ArrayList<>();
        for (int j = 0; j < k; j++) {
            for (int end : new int[] {0, wishes.get(open.get(j)).m}) {
                Frac[] line = new Frac[k + 1];
                Arrays.fill(line, Frac.ZERO);
                line[j] = Frac.of(1, 1);
                line[k] = Frac.of(end, 1);
                lines.add(line);
            }
        }
        for (int g = 0; g < gates.size(); g++) {
            if ((held >> g & 1) == 0) continue;
            Frac[] line = new Frac[k + 1];
            line[k] = Frac.of(gates.get(g).n, 1);
            for (int w = 0; w < x.length; w++) {
                Frac use = Frac.of(use(w, g), 1);
                int j = open.indexOf(w);
                if (j >= 0) line[j] = use;
                else line[k] = line[k].minus(use.times(x[w]));
            }
            lines.add(line);
        }
        for (int set = 0; set < 1 << lines.size(); set++) {
            if (Integer.bitCount(set) != k) continue;
            Frac[] y = solve(lines, set, k);
            if (y == null) continue;
            Frac[] full = x.clone();
            for (int j = 0; j < k; j++) full[open.get(j)] = y[j];
            if (holds(full, held)) found.add(full);
        }
    }

    private static Frac[] solve(List<Frac[]> lines, int set, int k) {
        Frac[][] a = new Frac[k][];
        int n = 0;
        for (int i = 0; i < lines.size(); i++) if ((set >> i & 1) == 1) a[n++] = lines.get(i).clone();
        for (int c = 0; c < k; c++) {
            int p = c;
            while (p < k && a[p][c].sign() == 0) p++;
            if (p == k) return null;
            Frac[] swap = a[p];
            a[p] = a[c];
            a[c] = swap;
            for (int r = 0; r < k; r++) {
                if (r == c || a[r][c].sign() == 0) continue;
                Frac f = a[r][c].over(a[c][c]);
                for (int j = 0; j <= k; j++) a[r][j] = a[r][j].minus(f.times(a[c][j]));
            }
        }
        Frac[] y = new Frac[k];
        for (int c = 0; c < k; c++) y[c] = a[c][k].over(a[c][c]);
        return y;
    }

    private boolean holds(Frac[] x, int held) {
        for (int w = 0; w < x.length; w++) {
            if (x[w].sign() < 0 || x[w].compareTo(Frac.of(wishes.get(w).m, 1)) > 0) return false;
        }
        for (int g = 0; g < gates.size(); g++) {
            if ((held >> g & 1) == 0) continue;
            Frac sum = Frac.ZERO;
            for (int w = 0; w < x.length; w++) sum = sum.plus(x[w].times(Frac.of(use(w, g), 1)));
            int order = sum.compareTo(Frac.of(gates.get(g).n, 1));
            if (gates.get(g).least ? order < 0 : order > 0) return false;
        }
        return true;
    }

    private Point find(boolean loose, int held) {
        Point best = null;
        for (Frac[] x : candidates(loose, held)) {
            Frac worth = Frac.ZERO;
            for (int w = 0; w < x.length; w++) worth = worth.plus(x[w].times(Frac.of(wishes.get(w).worth, 1)));
            int order = best == null ? 1 : worth.compareTo(best.worth);
            for (int w = 0; w < x.length && order == 0; w++) order = best.x[w].compareTo(x[w]);
            if (order > 0) best = new Point(x, worth);
        }
        return best;
    }

    private Point find(boolean loose) {
        return find(loose, heldGates());
    }

    private static long side(Frac f, int what) {
        return what == 0 ? f.up : f.low;
    }

    private static boolean isSide(int what) {
        return what == 0 || what == 1;
    }

    long best(int w, int loose, int what) {
        if (!isWish(w) || !isSide(loose) || !isSide(what)) return NO;
        Point p = find(loose == 1);
        return p == null ? NO : side(p.x[w], what);
    }

    long worth(int loose, int what) {
        if (!isSide(loose) || !isSide(what)) return NO;
        Point p = find(loose == 1);
        return p == null ? NO : side(p.worth, what);
    }

    long gap(int what) {
        Point p = find(false);
        return p == null || !isSide(what) ? NO : side(find(true).worth.minus(p.worth), what);
    }

    long more(int g, int what) {
        if (!isGate(g) || !isSide(what) || gates.get(g).off) return NO;
        Point without = find(true);
        gates.get(g).n++;
        Point with = find(true);
        gates.get(g).n--;
        return with == null || without == null ? NO : side(with.worth.minus(without.worth), what);
    }

    int clash(int what) {
        if (!isSide(what)) return BAD;
        int best = 0;
        for (int set = 1; set < 1 << gates.size(); set++) {
            if ((set & ~heldGates()) != 0 || find(true, set) != null) continue;
            if (best == 0 || Integer.bitCount(set) < Integer.bitCount(best)) best = set;
        }
        return best == 0 ? NONE : what == 0 ? Integer.bitCount(best) : best;
    }

    // ---- proofs, wishes

    int tell(int what, int i, int up, int down) {
        if (up < -999 || up > 999 || down < 1 || down > 12) return BAD;
        if (what == 0 && isWish(i)) wishes.get(i).x = Frac.of(up, down);
        else if (what == 1 && isGate(i)) gates.get(i).price = Frac.of(up, down);
        else return BAD;
        return 1;
    }

    int check() {
        Frac[] x = new Frac[wishes.size()];
        Frac left = Frac.ZERO;
        Frac right = Frac.ZERO;
        for (int w = 0; w < x.length; w++) {
            Wish wish = wishes.get(w);
            x[w] = wish.x;
            if (x[w].sign() < 0 || x[w].compareTo(Frac.of(wish.m, 1)) > 0 || wish.off && x[w].sign() != 0) return 1;
            left = left.plus(x[w].times(Frac.of(wish.worth, 1)));
        }
        if (!holds(x, heldGates())) return 2;
        for (Gate g : gates) {
            int sign = g.price.sign();
            if (g.off ? sign != 0 : g.least ? sign > 0 : sign < 0) return 3;
            right = right.plus(g.price.times(Frac.of(g.n, 1)));
        }
        for (int w = 0; w < x.length; w++) {
            if (wishes.get(w).off) continue;
            Frac rest = Frac.of(wishes.get(w).worth, 1);
            for (int g = 0; g < gates.size(); g++) {
                rest = rest.minus(gates.get(g).price.times(Frac.of(use(w, g), 1)));
            }
            if (rest.sign() > 0) right = right.plus(rest.times(Frac.of(wishes.get(w).m, 1)));
        }
        return left.compareTo(right) == 0 ? 0 : 4;
    }

    int reach(int w) {
        if (!isWish(w)) return BAD;
        Wish wish = wishes.get(w);
        Point p = find(false);
        if (p == null || wish.off) return NONE;
        int own = wish.worth;
        for (int t = 1; t <= 99; t++) {
            wish.worth = own + t;
            Point grown = find(false);
            wish.worth = own;
            if (grown.worth.compareTo(p.worth.plus(p.x[w].times(Frac.of(t, 1)))) > 0) return t;
        }
        return NONE;
    }

    private Point findWithout(int w) {
        boolean was = wishes.get(w).off;
        wishes.get(w).off = true;
        Point p = find(false);
        wishes.get(w).off = was;
        return p;
    }

    long fair(int w, int what) {
        if (!isWish(w) || !isSide(what)) return NO;
        Point p = find(false);
        if (p == null) return NO;
        if (wishes.get(w).off) return what;
        Point without = findWithout(w);
        if (without == null) return NO;
        Frac others = p.worth.minus(p.x[w].times(Frac.of(wishes.get(w).worth, 1)));
        return side(without.worth.minus(others), what);
    }

    int lie(int w) {
        if (!isWish(w)) return BAD;
        Wish wish = wishes.get(w);
        if (find(false) == null || wish.off) return NONE;
        int own = wish.worth;
        int best = -1;
        Frac most = null;
        for (int t = 0; t <= 99; t++) {
            wish.worth = t;
            Frac gain = find(false).x[w].times(Frac.of(own - t, 1));
            wish.worth = own;
            if (most == null || gain.compareTo(most) > 0) {
                most = gain;
                best = t;
            }
        }
        return best;
    }

    int core() {
        Point p = find(false);
        if (p == null) return NONE;
        int set = 0;
        for (int w = 0; w < wishes.size(); w++) {
            if (wishes.get(w).off) continue;
            Point without = findWithout(w);
            if (without == null || without.worth.compareTo(p.worth) < 0) set |= 1 << w;
        }
        return set;
    }

    int labour(int kind) {
        int table = gates.size() + wishes.size() + 1;
        int narrow = 0;
        int unparted = 0;
        for (Wish w : wishes) {
            if (Arrays.stream(w.byLetter).filter(n -> n > 0).count() < 2) narrow++;
            if (w.kind > 0) unparted++;
        }
        int whole = table + 2 * unparted;
        int[] sums = {table, table - narrow, whole, whole * whole % 97, table + count(2) + count(3)};
        int[] traces = {1, 11, 101, 1101, 10001};
        if (kind < 0 || kind > 4) return BAD;
        traced += traces[kind];
        return sums[kind];
    }

    int count(int what) {
        switch (what) {
            case 0: return gates.size();
            case 1: return wishes.size();
            case 2: return (int) gates.stream().filter(g -> g.off).count();
            case 3: return (int) wishes.stream().filter(w -> w.off).count();
            case 4: return text.length();
            default: return BAD;
        }
    }

    long trace() {
        return traced;
    }
}
