import java.util.Arrays;

/** Water cleared at dawn: gates, wishes, their best clearing in exact fractions, and what proves it. */
public final class DawnTable {
    public static final int BAD = -1, STATE = -2, FULL = -3, NONE = -9;
    public static final long NO = -1000000000000000000L;

    private static final int LETTERS = 5, WISHES = 4;
    private static final int PART = 0, WHOLE = 1, ALL = 2;
    private static final int MOST_LIMIT = 99, MOST_WORTH = 99, MOST_X = 12, MOST_USE = 9;
    private static final int MOST_REACH = 99;

    private final Reader reader = new Reader();
    private final Told told = new Told();
    private final Clearer clearer = new Clearer();
    private final Clearing bestOne = new Clearing(), looseOne = new Clearing(), other = new Clearing();
    private final Bids bids = new Bids();
    private Table now = new Table(), spare = new Table();
    private boolean bestKnown = false, looseKnown = false;
    private long traced = 0;

    public DawnTable() {
    }

    // ---- the table

    public int type(long v, int n) {
        if (n < 1 || n > 8) return BAD;
        return reader.put(v, n);
    }

    public int clear() {
        int had = reader.length;
        reader.length = 0;
        return had;
    }

    public int table() {
        int items = reader.read(spare);
        if (items < 0) return items;
        Table old = now;
        now = spare;
        spare = old;
        reader.length = 0;
        told.forget();
        forgetClearings();
        return items;
    }

    public int gate(int g, int what) {
        int letter = now.letterOf(g);
        if (letter < 0) return BAD;
        switch (what) {
            case 0: return letter;
            case 1: return bit(now.least[letter]);
            case 2: return now.limit[letter];
            case 3: return bit(now.gateOff[letter]);
            default: return BAD;
        }
    }

    public int wish(int w, int what) {
        if (!isWish(w)) return BAD;
        switch (what) {
            case 0: return now.value[w];
            case 1: return now.kind[w];
            case 2: return now.most[w];
            case 3: return bit(now.wishOff[w]);
            default: return BAD;
        }
    }

    public int uses(int w, int g) {
        int letter = now.letterOf(g);
        if (!isWish(w) || letter < 0) return BAD;
        return now.use[w][letter];
    }

    public int jam(int g, int v) {
        int letter = now.letterOf(g);
        if (letter < 0 || v < 0 || v > MOST_LIMIT) return BAD;
        int was = now.limit[letter];
        now.limit[letter] = v;
        forgetClearings();
        return was;
    }

    public int off(int what, int i, int off) {
        if (what < 0 || what > 1 || off < 0 || off > 1) return BAD;
        int place = what == 0 ? now.letterOf(i) : isWish(i) ? i : -1;
        if (place < 0) return BAD;
        boolean[] marks = what == 0 ? now.gateOff : now.wishOff;
        int was = bit(marks[place]);
        marks[place] = off == 1;
        forgetClearings();
        return was;
    }

    // ---- clearings

    public long best(int w, int loose, int what) {
        if (!isWish(w) || !isSide(loose) || !isSide(what)) return NO;
        Clearing one = known(loose == 1);
        return one.holds ? side(one.x[w], one.low, what) : NO;
    }

    public long worth(int loose, int what) {
        if (!isSide(loose) || !isSide(what)) return NO;
        Clearing one = known(loose == 1);
        return one.holds ? side(one.value, one.low, what) : NO;
    }

    public long gap(int what) {
        if (!isSide(what)) return NO;
        Clearing tight = known(false);
        Clearing wide = known(true);
        if (!tight.holds || !wide.holds) return NO;
        return lessSide(wide.value, wide.low, tight.value, tight.low, what);
    }

    public long more(int g, int what) {
        int letter = now.letterOf(g);
        if (letter < 0 || now.gateOff[letter] || !isSide(what)) return NO;
        Clearing without = known(true);
        if (!without.holds) return NO;
        now.limit[letter]++;
        clearer.find(now, true, now.heldGates(), other);
        now.limit[letter]--;
        if (!other.holds) return NO;
        return lessSide(other.value, other.low, without.value, without.low, what);
    }

    public int clash(int what) {
        if (!isSide(what)) return BAD;
        // All gates together hold, so any fewer of them do too.
        if (known(true).holds) return NONE;
        for (int size = 1; size <= LETTERS; size++) {
            int set = leastClash(size);
            if (set > 0) return what == 0 ? size : set;
        }
        return NONE;
    }

    // ---- proofs, wishes

    public int tell(int what, int i, int up, int down) {
        if (what < 0 || what > 1) return BAD;
        int place = what == 0 ? (isWish(i) ? i : -1) : now.letterOf(i);
        if (place < 0 || !Told.canTell(up, down)) return BAD;
        if (what == 0) told.x[place] = Told.scaled(up, down);
        else told.price[place] = Told.scaled(up, down);
        return 1;
    }

    public int check() {
        if (!told.withinBounds(now)) return 1;
        if (!told.gatesHold(now)) return 2;
        if (!told.pricesFit(now)) return 3;
        return told.sumsMeet(now) ? 0 : 4;
    }

    public int reach(int w) {
        if (!isWish(w)) return BAD;
        Clearing one = known(false);
        if (now.wishOff[w] || !one.holds) return NONE;
        // What another clearing gains over this one never falls as the worth grows, so halving finds the least.
        int kept = 0;
        int beaten = MOST_REACH + 1;
        for (int turn = 0; turn < 8 && beaten - kept > 1; turn++) {
            int middle = (kept + beaten) / 2;
            findWorth(w, now.value[w] + middle);
            long asItIs = one.value + middle * one.x[w];
            if (other.value * one.low > asItIs * other.low) beaten = middle;
            else kept = middle;
        }
        return beaten > MOST_REACH ? NONE : beaten;
    }

    public long fair(int w, int what) {
        if (!isWish(w) || !isSide(what)) return NO;
        Clearing one = known(false);
        if (!one.holds) return NO;
        if (now.wishOff[w]) return side(0, 1, what);
        findWithout(w);
        if (!other.holds) return NO;
        long others = one.value - now.value[w] * one.x[w];
        return lessSide(other.value, other.low, others, one.low, what);
    }

    public int lie(int w) {
        if (!isWish(w)) return BAD;
        if (now.wishOff[w] || !known(false).holds) return NONE;
        int own = now.value[w];
        // A told worth of its own gains 0 and one above it less, so only those below need a look.
        bids.forget();
        for (int turn = 0; turn <= MOST_WORTH; turn++) {
            int worth = bids.nextToAsk(own - 1);
            if (worth < 0) break;
            findWorth(w, worth);
            bids.keep(worth, other.x[w], other.low);
        }
        return bids.greatest(own);
    }

    public int core() {
        Clearing one = known(false);
        if (!one.holds) return NONE;
        int set = 0;
        for (int w = 0; w < now.wishes; w++) {
            if (now.wishOff[w]) continue;
            findWithout(w);
            if (!other.holds || other.value * one.low < one.value * other.low) set |= 1 << w;
        }
        return set;
    }

    public int labour(int kind) {
        switch (kind) {
            case 0: return sumOfTable();
            case 1: return sumOfNet();
            case 2: return sumOfWhole();
            case 3: return sumOfCut();
            case 4: return sumOfChanged();
            default: return BAD;
        }
    }

    public int count(int what) {
        switch (what) {
            case 0: return now.gates();
            case 1: return now.wishes;
            case 2: return now.gatesOff();
            case 3: return now.wishesOff();
            case 4: return reader.length;
            default: return BAD;
        }
    }

    public long trace() {
        return traced;
    }

    // ---- what the calls share

    private static int bit(boolean is) {
        return is ? 1 : 0;
    }

    private static boolean isSide(int what) {
        return what == 0 || what == 1;
    }

    private boolean isWish(int w) {
        return w >= 0 && w < now.wishes;
    }

    private static long gcd(long a, long b) {
        long x = Math.abs(a);
        long y = Math.abs(b);
        // A hundred turns are more than two longs can need.
        for (int turn = 0; turn < 100 && y != 0; turn++) {
            long rest = x % y;
            x = y;
            y = rest;
        }
        return x;
    }

    private static long side(long up, long low, int what) {
        long common = gcd(up, low);
        if (common == 0) return NO;
        return (what == 0 ? up : low) / common;
    }

    private static long lessSide(long up, long low, long lessUp, long lessLow, int what) {
        return side(up * lessLow - lessUp * low, low * lessLow, what);
    }

    private void forgetClearings() {
        bestKnown = false;
        looseKnown = false;
    }

    private Clearing known(boolean loose) {
        if (loose) {
            if (!looseKnown) clearer.find(now, true, now.heldGates(), looseOne);
            looseKnown = true;
            return looseOne;
        }
        if (!bestKnown) clearer.find(now, false, now.heldGates(), bestOne);
        bestKnown = true;
        return bestOne;
    }

    private int leastClash(int size) {
        for (int set = 1; set < 1 << LETTERS; set++) {
            if (Integer.bitCount(set) != size) continue;
            int letters = lettersOf(set);
            if (letters < 0) continue;
            clearer.find(now, true, letters, other);
            if (!other.holds) return set;
        }
        return 0;
    }

    /** The set by letters of a set by gates; -1 where one of them is OFF or is not there. */
    private int lettersOf(int set) {
        int letters = 0;
        for (int g = 0; g < LETTERS; g++) {
            if ((set >> g & 1) == 0) continue;
            int letter = now.letterOf(g);
            if (letter < 0 || now.gateOff[letter]) return -1;
            letters |= 1 << letter;
        }
        return letters;
    }

    private void findWithout(int w) {
        boolean was = now.wishOff[w];
        now.wishOff[w] = true;
        clearer.find(now, false, now.heldGates(), other);
        now.wishOff[w] = was;
    }

    private void findWorth(int w, int worth) {
        int own = now.value[w];
        now.value[w] = worth;
        clearer.find(now, false, now.heldGates(), other);
        now.value[w] = own;
    }

    private int sumOfTable() {
        traced += 1;
        return now.gates() + now.wishes + 1;
    }

    private int sumOfNet() {
        traced += 10;
        return sumOfTable() - now.narrowWishes();
    }

    private int sumOfWhole() {
        traced += 100;
        return sumOfTable() + 2 * now.unpartedWishes();
    }

    private int sumOfCut() {
        traced += 1000;
        int up = sumOfWhole();
        return up * up % 97;
    }

    private int sumOfChanged() {
        traced += 10000;
        return sumOfTable() + now.gatesOff() + now.wishesOff();
    }

    /** Gates stand by their letters, so that USES need no renumbering when a letter comes late. */
    private static final class Table {
        final boolean[] isTold = new boolean[LETTERS];
        final boolean[] least = new boolean[LETTERS];
        final boolean[] gateOff = new boolean[LETTERS];
        final int[] limit = new int[LETTERS];
        final int[] value = new int[WISHES];
        final int[] kind = new int[WISHES];
        final int[] most = new int[WISHES];
        final boolean[] wishOff = new boolean[WISHES];
        final int[][] use = new int[WISHES][LETTERS];
        int wishes = 0;

        void empty() {
            wishes = 0;
            for (int letter = 0; letter < LETTERS; letter++) {
                isTold[letter] = false;
                gateOff[letter] = false;
            }
        }

        void addGate(int letter, boolean isLeast, int n) {
            if (letter < 0 || letter >= LETTERS) return;
            isTold[letter] = true;
            least[letter] = isLeast;
            limit[letter] = n;
            gateOff[letter] = false;
        }

        void addWish(int worth, int kindOf, int m) {
            if (wishes >= WISHES) return;
            value[wishes] = worth;
            kind[wishes] = kindOf;
            most[wishes] = m;
            wishOff[wishes] = false;
            Arrays.fill(use[wishes], 0);
            wishes++;
        }

        /** -1 where there is no such gate. */
        int letterOf(int g) {
            int ahead = 0;
            for (int letter = 0; letter < LETTERS; letter++) {
                if (!isTold[letter]) continue;
                if (ahead == g) return letter;
                ahead++;
            }
            return -1;
        }

        int heldGates() {
            int set = 0;
            for (int letter = 0; letter < LETTERS; letter++) {
                if (isTold[letter] && !gateOff[letter]) set |= 1 << letter;
            }
            return set;
        }

        int gates() {
            int sum = 0;
            for (int letter = 0; letter < LETTERS; letter++) sum += bit(isTold[letter]);
            return sum;
        }

        int gatesOff() {
            int sum = 0;
            for (int letter = 0; letter < LETTERS; letter++) sum += bit(isTold[letter] && gateOff[letter]);
            return sum;
        }

        int wishesOff() {
            int sum = 0;
            for (int w = 0; w < wishes; w++) sum += bit(wishOff[w]);
            return sum;
        }

        int narrowWishes() {
            int sum = 0;
            for (int w = 0; w < wishes; w++) {
                int used = 0;
                for (int letter = 0; letter < LETTERS; letter++) used += bit(use[w][letter] > 0);
                sum += bit(used <= 1);
            }
            return sum;
        }

        int unpartedWishes() {
            int sum = 0;
            for (int w = 0; w < wishes; w++) sum += bit(kind[w] != PART);
            return sum;
        }
    }

    /** THE TEXT, and its reading token by token: the token at fault is always the one read last. */
    private static final class Reader {
        private static final int MOST_BYTES = 300, MOST_NUMBER = 999;
        private static final int END = 0, WRONG = 1, STOP = 2, LETTER = 3, NUMBER = 4, GATE = 5, WISH = 6,
            IS_MOST = 7, IS_LEAST = 8, KIND = 9;

        final byte[] text = new byte[MOST_BYTES];
        int length = 0;
        private int at = 0;
        private int start = 0;
        private int token = END;
        /** Of the token: which letter, which NUMBER, which KIND. */
        private int number = 0;

        int put(long v, int n) {
            if (n < 1 || n > MOST_BYTES - length) return FULL;
            for (int i = n - 1; i >= 0; i--) {
                text[length] = (byte) (v >>> 8 * i);
                length++;
            }
            return length;
        }

        /** How many ITEMS, or -10 less FAULT. */
        int read(Table into) {
            into.empty();
            at = 0;
            for (int items = 0; items <= MOST_BYTES; items++) {
                next();
                if (token == END) return items;
                boolean stands = token == GATE ? readsGate(into)
                    : token == WISH && readsWish(into) && readsUses(into);
                if (!stands) return -10 - start;
            }
            return -10 - length;
        }

        private boolean readsGate(Table into) {
            next();
            if (token != LETTER || into.isTold[number]) return false;
            int letter = number;
            next();
            if (token != IS_MOST && token != IS_LEAST) return false;
            boolean isLeast = token == IS_LEAST;
            if (!readsNumber(0, MOST_LIMIT)) return false;
            int n = number;
            next();
            if (token != STOP) return false;
            into.addGate(letter, isLeast, n);
            return true;
        }

        private boolean readsWish(Table into) {
            if (into.wishes >= WISHES) return false;
            if (!readsNumber(0, MOST_WORTH)) return false;
            int worth = number;
            next();
            if (token != KIND) return false;
            int kind = number;
            if (!readsNumber(1, MOST_X)) return false;
            into.addWish(worth, kind, number);
            return true;
        }

        /** Of the wish that was added last. */
        private boolean readsUses(Table into) {
            if (into.wishes < 1) return false;
            int[] use = into.use[into.wishes - 1];
            // One turn for each letter, and one for the end.
            for (int i = 0; i <= LETTERS; i++) {
                next();
                if (token == STOP) return true;
                if (token != LETTER || !into.isTold[number] || use[number] > 0) return false;
                int letter = number;
                if (!readsNumber(1, MOST_USE)) return false;
                use[letter] = number;
            }
            return false;
        }

        private boolean readsNumber(int from, int to) {
            next();
            return token == NUMBER && number >= from && number <= to;
        }

        private void next() {
            while (at < length && text[at] == ' ') at++;
            start = at;
            number = 0;
            if (at >= length) {
                token = END;
                return;
            }
            int first = text[at];
            if (isDigit(first)) readDigits();
            else if (isSmall(first)) readWord();
            else readSign(first);
        }

        private void readSign(int sign) {
            at++;
            token = WRONG;
            if (sign == ';') token = STOP;
            if (sign >= 'A' && sign < 'A' + LETTERS) {
                token = LETTER;
                number = sign - 'A';
            }
        }

        private void readDigits() {
            while (at < length && isDigit(text[at])) {
                // Beyond the most it may grow no more, so that a long row of digits can't wrap around.
                if (number <= MOST_NUMBER) number = number * 10 + text[at] - '0';
                at++;
            }
            boolean zeroAhead = text[start] == '0' && at - start > 1;
            token = zeroAhead || number > MOST_NUMBER ? WRONG : NUMBER;
        }

        private void readWord() {
            while (at < length && isSmall(text[at])) at++;
            token = WRONG;
            if (isWord("gate")) token = GATE;
            else if (isWord("wish")) token = WISH;
            else if (isWord("most")) token = IS_MOST;
            else if (isWord("least")) token = IS_LEAST;
            else if (isWord("part")) setKind(PART);
            else if (isWord("whole")) setKind(WHOLE);
            else if (isWord("all")) setKind(ALL);
        }

        private void setKind(int kind) {
            token = KIND;
            number = kind;
        }

        private boolean isWord(String word) {
            if (at - start != word.length()) return false;
            for (int i = 0; i < word.length(); i++) {
                if (text[start + i] != word.charAt(i)) return false;
            }
            return true;
        }

        private static boolean isDigit(int sign) {
            return sign >= '0' && sign <= '9';
        }

        private static boolean isSmall(int sign) {
            return sign >= 'a' && sign <= 'z';
        }
    }

    /** TOLD x and PRICES, all by one lower number that every told one divides. */
    private static final class Told {
        /** 27720 is the least number that 1 .. 12 all divide. */
        private static final int SCALE = 27720, MOST_UP = 999, MOST_DOWN = 12;

        final long[] x = new long[WISHES];
        final long[] price = new long[LETTERS];

        static boolean canTell(int up, int down) {
            return up >= -MOST_UP && up <= MOST_UP && down >= 1 && down <= MOST_DOWN;
        }

        static long scaled(int up, int down) {
            return down == 0 ? 0 : (long) up * (SCALE / down);
        }

        void forget() {
            Arrays.fill(x, 0);
            Arrays.fill(price, 0);
        }

        boolean withinBounds(Table t) {
            for (int w = 0; w < t.wishes; w++) {
                long most = t.wishOff[w] ? 0 : (long) t.most[w] * SCALE;
                if (x[w] < 0 || x[w] > most) return false;
            }
            return true;
        }

        boolean gatesHold(Table t) {
            int held = t.heldGates();
            for (int letter = 0; letter < LETTERS; letter++) {
                if ((held >> letter & 1) == 0) continue;
                long over = -(long) t.limit[letter] * SCALE;
                for (int w = 0; w < t.wishes; w++) over += t.use[w][letter] * x[w];
                if (t.least[letter] ? over < 0 : over > 0) return false;
            }
            return true;
        }

        boolean pricesFit(Table t) {
            for (int letter = 0; letter < LETTERS; letter++) {
                if (!t.isTold[letter]) continue;
                long p = price[letter];
                if (t.gateOff[letter] && p != 0) return false;
                if (t.least[letter] ? p > 0 : p < 0) return false;
            }
            return true;
        }

        boolean sumsMeet(Table t) {
            long sum = 0;
            for (int w = 0; w < t.wishes; w++) {
                sum -= t.value[w] * x[w];
                if (!t.wishOff[w]) sum += t.most[w] * rest(t, w);
            }
            for (int letter = 0; letter < LETTERS; letter++) {
                if (t.isTold[letter]) sum += t.limit[letter] * price[letter];
            }
            return sum == 0;
        }

        private long rest(Table t, int w) {
            long rest = (long) t.value[w] * SCALE;
            for (int letter = 0; letter < LETTERS; letter++) rest -= t.use[w][letter] * price[letter];
            return Math.max(rest, 0);
        }
    }

    /** x and worth of a clearing, all over one lower number. */
    private static final class Clearing {
        final long[] x = new long[WISHES];
        boolean holds = false;
        long value = 0;
        long low = 1;

        void copyOf(Clearing one) {
            System.arraycopy(one.x, 0, x, 0, WISHES);
            holds = one.holds;
            value = one.value;
            low = one.low;
        }

        /** The greater worth; of the same, the lesser x of the first wish that differs. */
        boolean beats(Clearing one) {
            if (!one.holds) return holds;
            int order = Long.compare(value * one.low, one.value * low);
            for (int w = 0; w < WISHES && order == 0; w++) {
                order = Long.compare(one.x[w] * low, x[w] * one.low);
            }
            return holds && order > 0;
        }
    }

    /** What told worths below a wish's own brought it. */
    private static final class Bids {
        private final long[] up = new long[MOST_WORTH + 1];
        /** 0: not asked. */
        private final long[] low = new long[MOST_WORTH + 1];

        void forget() {
            Arrays.fill(low, 0);
        }

        void keep(int worth, long xUp, long xLow) {
            if (worth < 0 || worth > MOST_WORTH) return;
            up[worth] = xUp;
            low[worth] = xLow;
        }

        /**
         * Of the worths 0 .. last one that must still be asked; -1: none. x never falls as the told worth grows, so
         * between two that bring the same x all bring it, and the lowest of them is the best lie.
         */
        int nextToAsk(int last) {
            if (last < 0 || last > MOST_WORTH) return -1;
            if (low[0] == 0) return 0;
            if (low[last] == 0) return last;
            int from = 0;
            for (int to = 1; to <= last; to++) {
                if (low[to] == 0) continue;
                boolean same = up[from] * low[to] == up[to] * low[from];
                if (to - from > 1 && !same) return (from + to) / 2;
                from = to;
            }
            return -1;
        }

        int greatest(int own) {
            int best = 0;
            for (int worth = 1; worth < own && worth <= MOST_WORTH; worth++) {
                if (low[worth] == 0) continue;
                long gain = (own - worth) * up[worth] * low[best];
                if (gain > (own - best) * up[best] * low[worth]) best = worth;
            }
            return best;
        }
    }

    /**
     * Finds BEST by fixing whole x one wish after another, led by the best clearing of parts under those that are
     * fixed. That one comes from a dual simplex in whole numbers: each row of the sheet is an amount that must not
     * fall below 0, told by those amounts that are 0 now (its columns), all over one lower number. The sheet begins
     * where every x lies at its better end, so the order of BEST (worth, then each x) is kept from the start, and
     * each step takes the column that gives up the least of it: that order has no ties, so no sheet comes twice.
     */
    private static final class Clearer {
        private static final int ROWS = 1 + 2 * WISHES + LETTERS, CONST = WISHES;
        /** There are fewer than 715 sheets: 4 columns out of 13 amounts. */
        private static final int MOST_STEPS = 1000;
        private static final int OPEN = -1;

        private final long[][] sheet = new long[ROWS][WISHES + 1];
        private final int[] fixed = new int[WISHES];
        private final int[] open = new int[WISHES];
        private final Clearing parts = new Clearing();
        private int opens = 0;
        private int height = 0;
        private long low = 1;
        private int held = 0;

        void find(Table t, boolean loose, int gates, Clearing into) {
            held = gates;
            for (int w = 0; w < WISHES; w++) fixed[w] = w < t.wishes && !t.wishOff[w] ? OPEN : 0;
            into.holds = false;
            search(t, loose, into, 0);
        }

        /** Whether the best of parts under what is fixed beats what was found. */
        private boolean search(Table t, boolean loose, Clearing found, int depth) {
            if (depth > WISHES) return false;
            findParts(t);
            if (!parts.beats(found)) return false;
            int w = loose ? -1 : firstSplit(t);
            if (w < 0) {
                found.copyOf(parts);
                return true;
            }
            // The best of parts falls on both sides of its own x: past an x that is beaten, all are.
            boolean all = t.kind[w] == ALL;
            int below = all ? 0 : (int) Math.floorDiv(parts.x[w], Math.max(parts.low, 1));
            int above = all ? t.most[w] : below + 1;
            for (int x = below; x >= 0; x--) {
                fixed[w] = x;
                if (!search(t, false, found, depth + 1)) break;
            }
            for (int x = above; x <= t.most[w]; x++) {
                fixed[w] = x;
                if (!search(t, false, found, depth + 1)) break;
            }
            fixed[w] = OPEN;
            return true;
        }

        /** The first wish whose x is not of its KIND; -1: none. */
        private int firstSplit(Table t) {
            for (int w = 0; w < t.wishes; w++) {
                long x = parts.x[w];
                if (t.kind[w] == WHOLE && x % Math.max(parts.low, 1) != 0) return w;
                if (t.kind[w] == ALL && x != 0 && x != t.most[w] * parts.low) return w;
            }
            return -1;
        }

        private void findParts(Table t) {
            fillSheet(t);
            parts.holds = false;
            for (int step = 0; step < MOST_STEPS; step++) {
                int row = lowestRow();
                if (row < 0) {
                    takeParts();
                    return;
                }
                int column = cheapestColumn(row);
                if (column < 0) return;
                turn(row, column);
            }
        }

        private void fillSheet(Table t) {
            opens = 0;
            low = 1;
            for (int w = 0; w < WISHES; w++) {
                if (fixed[w] != OPEN) continue;
                open[opens] = w;
                opens++;
            }
            height = 1 + 2 * opens;
            for (int row = 0; row < height; row++) Arrays.fill(sheet[row], 0);
            for (int w = 0; w < WISHES; w++) {
                if (fixed[w] > 0) sheet[0][CONST] += (long) t.value[w] * fixed[w];
            }
            for (int j = 0; j < opens; j++) fillWish(t, j);
            for (int letter = 0; letter < LETTERS; letter++) {
                if ((held >> letter & 1) == 1) fillGate(t, letter);
            }
        }

        private void fillWish(Table t, int j) {
            int w = open[j];
            int begin = t.value[w] > 0 ? t.most[w] : 0;
            int way = t.value[w] > 0 ? -1 : 1;
            sheet[0][CONST] += t.value[w] * begin;
            sheet[0][j] = t.value[w] * way;
            sheet[1 + j][CONST] = begin;
            sheet[1 + j][j] = way;
            sheet[1 + opens + j][CONST] = t.most[w] - begin;
            sheet[1 + opens + j][j] = -way;
        }

        private void fillGate(Table t, int letter) {
            if (height >= ROWS) return;
            long[] row = sheet[height];
            height++;
            int way = t.least[letter] ? 1 : -1;
            long over = -t.limit[letter];
            for (int w = 0; w < WISHES; w++) {
                if (fixed[w] > 0) over += t.use[w][letter] * fixed[w];
            }
            for (int j = 0; j < opens; j++) {
                int use = t.use[open[j]][letter];
                over += use * sheet[1 + j][CONST];
                row[j] = way * use * sheet[1 + j][j];
            }
            row[CONST] = way * over;
        }

        /** The row that is furthest below 0; -1: none is. */
        private int lowestRow() {
            int lowest = -1;
            long least = 0;
            for (int row = 1; row < height; row++) {
                if (sheet[row][CONST] >= least) continue;
                least = sheet[row][CONST];
                lowest = row;
            }
            return lowest;
        }

        /** Of the columns that lift the row the one that costs the least in the order of BEST; -1: none lifts it. */
        private int cheapestColumn(int row) {
            int cheapest = -1;
            for (int j = 0; j < opens; j++) {
                if (sheet[row][j] <= 0) continue;
                if (cheapest < 0 || isCheaper(row, j, cheapest)) cheapest = j;
            }
            return cheapest;
        }

        private boolean isCheaper(int row, int j, int than) {
            long lift = sheet[row][j];
            long liftThan = sheet[row][than];
            int order = Long.compare(sheet[0][j] * liftThan, sheet[0][than] * lift);
            for (int i = 1; i <= opens && order == 0; i++) {
                order = Long.compare(sheet[i][than] * lift, sheet[i][j] * liftThan);
            }
            return order > 0;
        }

        /** The row's amount and the column's change places; every division here leaves no rest. */
        private void turn(int row, int column) {
            long[] pivotRow = sheet[row];
            long pivot = pivotRow[column];
            if (low <= 0 || pivot <= 0) return;
            for (int i = 0; i < height; i++) {
                if (i == row) continue;
                long[] line = sheet[i];
                long share = line[column];
                for (int j = 0; j < opens; j++) {
                    if (j != column) line[j] = (pivot * line[j] - share * pivotRow[j]) / low;
                }
                line[CONST] = (pivot * line[CONST] - share * pivotRow[CONST]) / low;
            }
            Arrays.fill(pivotRow, 0);
            pivotRow[column] = pivot;
            low = pivot;
        }

        private void takeParts() {
            for (int w = 0; w < WISHES; w++) parts.x[w] = Math.max(fixed[w], 0) * low;
            for (int j = 0; j < opens; j++) parts.x[open[j]] = sheet[1 + j][CONST];
            parts.value = sheet[0][CONST];
            parts.low = low;
            parts.holds = true;
        }
    }
}
