import java.io.IOException;
import java.nio.file.Files;
import java.nio.file.Path;
import java.util.Set;
import java.util.TreeSet;

/** What the boundary tests share: every case stands under a promise and a sentence of the document, word for word. */
abstract class Sentence {
    static final int BAD = -1, FULL = -3, NONE = -9;
    static final long NO = -1000000000000000000L;
    /** Numbers that stand for nothing, and would for something if a call looked at their lowest bits alone. */
    static final int[] FAR = {Integer.MIN_VALUE, Integer.MIN_VALUE + 1, Integer.MAX_VALUE, 1 << 8, 1 << 16, 1 << 24, -256};

    private static final int PROMISES = 23;
    private static final boolean[] named = new boolean[PROMISES + 1];
    private static String document = null;
    private static String place = "";
    private static int answers = 0;
    private static final Set<String> sentences = new TreeSet<>();
    private static int wrong = 0;

    /** The words of each sentence are looked for in the document, so that none is tested that does not stand there. */
    static void open(Path path) throws IOException {
        if (Files.exists(path)) document = plain(Files.readString(path));
        else System.out.println("the document is not at " + path + ": the sentences' words are not looked at");
    }

    private static String plain(String text) {
        return text.replaceAll("[\\s`]+", " ");
    }

    /** What comes next tests this sentence. */
    static void of(int promise, String words) {
        place = "promise " + promise + ", \"" + words + "\"";
        named[promise] = true;
        sentences.add(place);
        if (document != null && !document.contains(plain(words))) fail("the document does not say this");
    }

    static void due(String call, long got, long want) {
        answers++;
        if (got != want) fail(call + " answered " + got + ", due is " + want);
    }

    static void due(String call, String got, String want) {
        answers++;
        if (!got.equals(want)) fail(call + " answered\n    " + got + "\n  due is\n    " + want);
    }

    static void fraction(String call, long up, long low, long wantUp, long wantLow) {
        due(call + ", upper number", up, wantUp);
        due(call + ", lower number", low, wantLow);
    }

    private static void fail(String what) {
        wrong++;
        System.out.println(place + ": " + what);
    }

    static boolean end() {
        for (int promise = 1; promise <= PROMISES; promise++) {
            if (!named[promise]) fail("promise " + promise + " has no sentence");
        }
        System.out.println(sentences.size() + " sentences, " + answers + " answers looked at, " + wrong + " wrong");
        return wrong == 0;
    }

    // ---- tables

    static void enter(DawnTable t, String text) {
        for (int at = 0; at < text.length(); at += 8) {
            int n = Math.min(8, text.length() - at);
            long v = 0;
            for (int i = 0; i < n; i++) v = v << 8 | text.charAt(at + i) & 255;
            t.type(v, n);
        }
    }

    static DawnTable typed(String text) {
        DawnTable t = new DawnTable();
        enter(t, text);
        due("count(4) of [" + text + "]", t.count(4), text.length());
        return t;
    }

    /** A new object whose text became its table. */
    static DawnTable stands(String text, int items) {
        DawnTable t = typed(text);
        due("table() of [" + text + "]", t.table(), items);
        due("count(4) after table()", t.count(4), 0);
        return t;
    }

    static DawnTable read(String text) {
        return stands(text, (int) text.chars().filter(c -> c == ';').count());
    }

    static void fault(String text, int at) {
        DawnTable t = typed(text);
        due("table() of [" + text + "]", t.table(), -10 - at);
        due("count(4) after a FAULT", t.count(4), text.length());
        due("gates after a FAULT", t.count(0), 0);
        due("wishes after a FAULT", t.count(1), 0);
    }

    static String times(String part, int n) {
        return part.repeat(n);
    }

    // ---- all that an object tells of itself

    static String everything(DawnTable t) {
        StringBuilder s = new StringBuilder("count");
        for (int what = 0; what < 5; what++) s.append(' ').append(t.count(what));
        for (int g = 0; g < t.count(0); g++) {
            s.append("; gate");
            for (int what = 0; what < 4; what++) s.append(' ').append(t.gate(g, what));
        }
        for (int w = 0; w < t.count(1); w++) {
            s.append("; wish");
            for (int what = 0; what < 4; what++) s.append(' ').append(t.wish(w, what));
            s.append(" uses");
            for (int g = 0; g < t.count(0); g++) s.append(' ').append(t.uses(w, g));
            s.append(" best ").append(t.best(w, 0, 0)).append('/').append(t.best(w, 0, 1));
            s.append(" loose ").append(t.best(w, 1, 0)).append('/').append(t.best(w, 1, 1));
        }
        s.append("; worth ").append(t.worth(0, 0)).append('/').append(t.worth(0, 1));
        s.append("; loose ").append(t.worth(1, 0)).append('/').append(t.worth(1, 1));
        s.append("; check ").append(t.check()).append("; trace ").append(t.trace());
        return s.toString();
    }
}
