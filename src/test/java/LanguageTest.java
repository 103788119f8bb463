import java.io.IOException;
import java.lang.reflect.Constructor;
import java.lang.reflect.Field;
import java.lang.reflect.Method;
import java.lang.reflect.Modifier;
import java.nio.file.Files;
import java.nio.file.Path;
import java.util.ArrayList;
import java.util.List;
import java.util.Map;
import java.util.Set;
import java.util.TreeMap;
import java.util.TreeSet;
import java.util.regex.Matcher;
import java.util.regex.Pattern;

/**
 * The rules of LANGUAGE.md that a look from outside can hold: the face (word for word that of DOC.md), static state,
 * words that may not stand, how long methods are, how deep calls go, where objects are made.
 */
public final class LanguageTest {
    private static final String FACE = "best check clash clear core count fair gap gate jam labour lie more off reach "
        + "table tell trace type uses wish worth";
    private static final String[] BANNED = {"\\b(throw|throws|try|catch|synchronized|assert|protected)\\b", "->", "::",
        "\\bstatic\\s*\\{", "\\w+Exact\\b", "\\b(hashCode|toString|System\\.(?!arraycopy)|Thread|Random)\\b",
        "\\bMath\\.(random|sqrt|pow)\\b", "\"\\s*\\+", "\\+\\s*\"", "^package\\b"};
    private static final Pattern METHOD = Pattern.compile(
        "^( {4}| {8})(?:(?:public|private|static|final) )*[\\w\\[\\]]+ (\\w+)\\([^)]*\\) \\{$");
    private static final int LONGEST = 60, DEEPEST = 8;
    private static int wrong = 0;

    public static void main(String[] args) throws IOException {
        face();
        document(Path.of(args[0], "..", "shared", "DOC.md"));
        inside(DawnTable.class);
        Class<?>[] classes = DawnTable.class.getDeclaredClasses();
        if (classes.length > 12) tell("more than twelve classes");
        for (Class<?> c : classes) {
            if (!Modifier.isStatic(c.getModifiers())) tell(c + " is not static");
            inside(c);
        }
        String text = Files.readString(Path.of(args[0], "src/main/java/DawnTable.java"));
        source(text);
        methods(bare(text));
        System.out.println("language: " + wrong + " wrong");
        if (wrong != 0) System.exit(1);
    }

    private static void tell(String what) {
        wrong++;
        System.out.println(what);
    }

    private static void face() {
        Set<String> open = new TreeSet<>();
        Set<String> hidden = new TreeSet<>();
        for (Method m : DawnTable.class.getDeclaredMethods()) {
            if (Modifier.isPublic(m.getModifiers())) open.add(m.getName());
            else if (Modifier.isPrivate(m.getModifiers())) hidden.add(m.getName());
            else if (!m.isSynthetic()) tell(m + " is neither public nor private");
        }
        if (!String.join(" ", open).equals(FACE)) tell("the face is " + open);
        for (Class<?> c : DawnTable.class.getDeclaredClasses()) {
            for (Method m : c.getDeclaredMethods()) hidden.add(m.getName());
        }
        hidden.retainAll(open);
        if (!hidden.isEmpty()) tell("names of the face stand inside too: " + hidden);
        for (Constructor<?> c : DawnTable.class.getConstructors()) {
            if (c.getParameterCount() != 0) tell(c + " is not of the face");
        }
        Set<String> constants = new TreeSet<>();
        for (Field f : DawnTable.class.getDeclaredFields()) {
            if (Modifier.isPublic(f.getModifiers())) constants.add(f.getName());
            else if (!Modifier.isPrivate(f.getModifiers())) tell(f + " is neither public nor private");
        }
        if (!constants.equals(Set.of("BAD", "STATE", "FULL", "NONE", "NO"))) tell("the constants are " + constants);
        if (!Modifier.isFinal(DawnTable.class.getModifiers())) tell("the class is not final");
        if (DawnTable.STATE != -2 || DawnTable.FULL != -3 || DawnTable.NONE != -9) tell("a constant is another one");
    }

    private static void inside(Class<?> c) {
        int fields = 0;
        for (Field f : c.getDeclaredFields()) {
            if (!Modifier.isStatic(f.getModifiers())) fields++;
            else if (!Modifier.isFinal(f.getModifiers())) tell(f + " is static and not final");
        }
        if (fields > 20) tell(c + " has " + fields + " fields");
        for (Method m : c.getDeclaredMethods()) {
            if (m.getParameterCount() > 7) tell(m + " takes more than seven parameters");
        }
    }

    /** Without comments. */
    private static String bare(String text) {
        return text.replaceAll("(?s)/\\*.*?\\*/", "").replaceAll("//[^\n]*", "");
    }

    private static void source(String text) {
        String bare = bare(text);
        for (String banned : BANNED) {
            Matcher m = Pattern.compile(banned, Pattern.MULTILINE).matcher(bare);
            if (m.find()) tell("may not stand in the source: " + m.group());
        }
        Matcher m = Pattern.compile("import\\s+([\\w.]+)").matcher(bare);
        while (m.find()) {
            if (!Set.of("java.util.Arrays", "java.util.ArrayList", "java.util.List").contains(m.group(1))) {
                tell("may not be imported: " + m.group(1));
            }
        }
        for (char c : text.toCharArray()) if (c > 126 || c < 32 && c != '\n') tell("a sign beyond 126 stands in the source");
    }

    /** Every line of the document's face, with its types and its constants' values. */
    private static void document(Path path) throws IOException {
        if (!Files.exists(path)) {
            System.out.println("the document is not at " + path + ": its face is not looked at");
            return;
        }
        String text = Files.readString(path);
        Matcher block = Pattern.compile("(?s)public final class DawnTable \\{(.*?)\n\\}").matcher(text);
        Set<String> due = block.find() ? faceOf(block.group(1)) : Set.of();
        Set<String> is = faceOfClass();
        if (due.size() != 27) tell("the face of the document has " + due.size() + " names");
        if (!due.equals(is)) tell("the face is\n" + is + "\nthat of the document\n" + due);
    }

    private static Set<String> faceOf(String block) {
        Set<String> face = new TreeSet<>();
        Matcher call = Pattern.compile("public (\\w+) (\\w+)\\(([^)]*)\\);").matcher(block);
        while (call.find()) {
            String types = call.group(3).replaceAll(" \\w+(?=,|$)", "");
            face.add(call.group(1) + " " + call.group(2) + "(" + types + ")");
        }
        Matcher constants = Pattern.compile("public static final (int|long) ([^;]*);").matcher(block);
        while (constants.find()) {
            for (String one : constants.group(2).replaceAll("(?<=\\d)L\\b", "").split(", ")) {
                face.add(constants.group(1) + " " + one);
            }
        }
        return face;
    }

    private static Set<String> faceOfClass() {
        Set<String> face = new TreeSet<>();
        for (Method m : DawnTable.class.getDeclaredMethods()) {
            if (!Modifier.isPublic(m.getModifiers())) continue;
            List<String> types = new ArrayList<>();
            for (Class<?> c : m.getParameterTypes()) types.add(c.getName());
            face.add(m.getReturnType() + " " + m.getName() + "(" + String.join(", ", types) + ")");
        }
        for (Field f : DawnTable.class.getFields()) face.add(f.getType() + " " + f.getName() + " = " + valueOf(f));
        return face;
    }

    private static String valueOf(Field f) {
        try {
            return String.valueOf(f.get(null));
        } catch (IllegalAccessException e) {
            return "hidden";
        }
    }

    private static void methods(String bare) {
        Map<String, Set<String>> calls = new TreeMap<>();
        String name = null;
        String end = "";
        int length = 0;
        for (String line : bare.split("\n")) {
            Matcher begin = METHOD.matcher(line);
            if (name == null && begin.find()) {
                name = begin.group(2);
                end = begin.group(1) + "}";
                length = 0;
                calls.putIfAbsent(name, new TreeSet<>());
                continue;
            }
            boolean field = name == null && line.matches("\\s+(private|final) .* = new .*");
            if (line.contains("new ") && !field) tell("an object is made where no field begins: " + line.trim());
            if (name == null) continue;
            length++;
            if (length > LONGEST) tell(name + " is longer than " + LONGEST + " lines");
            addCalls(line, calls.get(name));
            if (line.equals(end)) name = null;
        }
        if (calls.size() < 60) tell("only " + calls.size() + " methods were seen");
        for (String one : FACE.split(" ")) {
            int depth = depth(calls, one, new ArrayList<>());
            if (depth > DEEPEST) tell(one + " goes " + depth + " deep");
        }
    }

    private static void addCalls(String line, Set<String> to) {
        Matcher call = Pattern.compile("(\\w+)\\(").matcher(line);
        while (call.find()) {
            if (!Set.of("if", "for", "while", "switch").contains(call.group(1))) to.add(call.group(1));
        }
    }

    /** Methods of one name are looked at as one, so the depth told is at least the true one. */
    private static int depth(Map<String, Set<String>> calls, String name, List<String> open) {
        if (open.contains(name)) {
            boolean guarded = name.equals("search") && name.equals(open.get(open.size() - 1));
            if (!guarded) tell("calls itself: " + open + " " + name);
            return 0;
        }
        open.add(name);
        int most = 0;
        for (String next : calls.getOrDefault(name, Set.of())) most = Math.max(most, depth(calls, next, open));
        open.remove(open.size() - 1);
        return most + 1;
    }
}
