import java.io.IOException;
import java.lang.reflect.Constructor;
import java.lang.reflect.Field;
import java.lang.reflect.Method;
import java.lang.reflect.Modifier;
import java.nio.file.Files;
import java.nio.file.Path;
import java.util.Set;
import java.util.TreeSet;
import java.util.regex.Matcher;
import java.util.regex.Pattern;

/** The rules of LANGUAGE.md that a look from outside can hold: the face, static state, words that may not stand. */
public final class LanguageTest {
    private static final String FACE = "best check clash clear core count fair gap gate jam labour lie more off reach "
        + "table tell trace type uses wish worth";
    private static final String[] BANNED = {"\\b(throw|throws|try|catch|synchronized|assert|protected)\\b", "->", "::",
        "\\bstatic\\s*\\{", "\\w+Exact\\b", "\\b(hashCode|toString|System\\.(?!arraycopy)|Thread|Random)\\b",
        "\\bMath\\.(random|sqrt|pow)\\b", "\"\\s*\\+", "\\+\\s*\"", "^package\\b"};
    private static int wrong = 0;

    public static void main(String[] args) throws IOException {
        face();
        inside(DawnTable.class);
        Class<?>[] classes = DawnTable.class.getDeclaredClasses();
        if (classes.length > 12) tell("more than twelve classes");
        for (Class<?> c : classes) {
            if (!Modifier.isStatic(c.getModifiers())) tell(c + " is not static");
            inside(c);
        }
        source(Files.readString(Path.of(args[0], "src/main/java/DawnTable.java")));
        System.out.println("language: " + wrong + " wrong");
        if (wrong != 0) System.exit(1);
    }

    private static void tell(String what) {
        wrong++;
        System.out.println(what);
    }

    private static void face() {
        Set<String> open = new TreeSet<>();
        Set<String> hidden = new TreeSet<>();
        for (Method m : DawnTable.class.getDeclaredMethods()) {
            if (Modifier.isPublic(m.getModifiers())) open.add(m.getName());
            else if (Modifier.isPrivate(m.getModifiers())) hidden.add(m.getName());
            else if (!m.isSynthetic()) tell(m + " is neither public nor private");
        }
        if (!String.join(" ", open).equals(FACE)) tell("the face is " + open);
        for (Class<?> c : DawnTable.class.getDeclaredClasses()) {
            for (Method m : c.getDeclaredMethods()) hidden.add(m.getName());
        }
        hidden.retainAll(open);
        if (!hidden.isEmpty()) tell("names of the face stand inside too: " + hidden);
        for (Constructor<?> c : DawnTable.class.getConstructors()) {
            if (c.getParameterCount() != 0) tell(c + " is not of the face");
        }
        Set<String> constants = new TreeSet<>();
        for (Field f : DawnTable.class.getDeclaredFields()) {
            if (Modifier.isPublic(f.getModifiers())) constants.add(f.getName());
            else if (!Modifier.isPrivate(f.getModifiers())) tell(f + " is neither public nor private");
        }
        if (!constants.equals(Set.of("BAD", "STATE", "FULL", "NONE", "NO"))) tell("the constants are " + constants);
        if (!Modifier.isFinal(DawnTable.class.getModifiers())) tell("the class is not final");
        if (DawnTable.STATE != -2 || DawnTable.FULL != -3 || DawnTable.NONE != -9) tell("a constant is another one");
    }

    private static void inside(Class<?> c) {
        int fields = 0;
        for (Field f : c.getDeclaredFields()) {
            if (!Modifier.isStatic(f.getModifiers())) fields++;
            else if (!Modifier.isFinal(f.getModifiers())) tell(f + " is static and not final");
        }
        if (fields > 20) tell(c + " has " + fields + " fields");
        for (Method m : c.getDeclaredMethods()) {
            if (m.getParameterCount() > 7) tell(m + " takes more than seven parameters");
        }
    }

    private static void source(String text) {
        String bare = text.replaceAll("(?s)/\\*.*?\\*/", "").replaceAll("//[^\n]*", "");
        for (String banned : BANNED) {
            Matcher m = Pattern.compile(banned, Pattern.MULTILINE).matcher(bare);
            if (m.find()) tell("may not stand in the source: " + m.group());
        }
        Matcher m = Pattern.compile("import\\s+([\\w.]+)").matcher(bare);
        while (m.find()) {
            if (!Set.of("java.util.Arrays", "java.util.ArrayList", "java.util.List").contains(m.group(1))) {
                tell("may not be imported: " + m.group(1));
            }
        }
        for (char c : text.toCharArray()) if (c > 126 || c < 32 && c != '\n') tell("a sign beyond 126 stands in the source");
    }
}
