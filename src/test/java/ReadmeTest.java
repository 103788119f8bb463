import java.io.ByteArrayOutputStream;
import java.io.IOException;
import java.io.PrintStream;
import java.lang.reflect.Method;
import java.lang.reflect.Modifier;
import java.net.URL;
import java.net.URLClassLoader;
import java.nio.file.Files;
import java.nio.file.Path;
import java.util.ArrayList;
import java.util.List;
import java.util.regex.Matcher;
import java.util.regex.Pattern;
import java.util.stream.Stream;
import javax.tools.JavaCompiler;
import javax.tools.ToolProvider;

/** README.md: its example is compiled and run, and answers what stands beside each call; it names every call and test. */
public final class ReadmeTest {
    private static int wrong = 0;
    private static int answers = 0;

    public static void main(String[] args) throws Exception {
        Path root = Path.of(args.length > 0 ? args[0] : ".");
        String page = Files.readString(root.resolve("README.md"));
        example(page);
        names(page, root);
        System.out.println("readme: " + answers + " answers looked at, " + wrong + " wrong");
        if (wrong != 0) System.exit(1);
    }

    private static void tell(String what) {
        wrong++;
        System.out.println(what);
    }

    private static void example(String page) throws Exception {
        Matcher block = Pattern.compile("(?s)```java\n(.*?)```").matcher(page);
        if (!block.find()) {
            tell("README.md has no example");
            return;
        }
        String code = block.group(1);
        List<String> calls = new ArrayList<>();
        List<String> due = new ArrayList<>();
        Matcher line = Pattern.compile("show\\((t\\..*)\\);\\s*// (-?\\d+):").matcher(code);
        while (line.find()) {
            calls.add(line.group(1));
            due.add(line.group(2));
        }
        if (due.isEmpty()) tell("the example tells no answers");
        List<String> got = run(code);
        if (got.size() != due.size()) tell("the example tells " + due.size() + " answers and gives " + got.size());
        for (int i = 0; i < Math.min(due.size(), got.size()); i++) {
            answers++;
            if (!got.get(i).equals(due.get(i))) {
                tell(calls.get(i) + " answered " + got.get(i) + ", README.md says " + due.get(i));
            }
        }
    }

    /** What the example prints, line by line. */
    private static List<String> run(String code) throws Exception {
        Path place = Files.createTempDirectory("readme");
        Path source = place.resolve("Dawn.java");
        Files.writeString(source, code);
        JavaCompiler compiler = ToolProvider.getSystemJavaCompiler();
        String path = System.getProperty("java.class.path");
        PrintStream out = System.out;
        ByteArrayOutputStream said = new ByteArrayOutputStream();
        try {
            if (compiler.run(null, null, null, "-d", place.toString(), "-cp", path, source.toString()) != 0) {
                tell("the example can't be compiled");
                return List.of();
            }
            System.setOut(new PrintStream(said, true));
            try (URLClassLoader loader = new URLClassLoader(new URL[] {place.toUri().toURL()})) {
                Method main = loader.loadClass("Dawn").getMethod("main", String[].class);
                main.invoke(null, (Object) new String[0]);
            }
        } finally {
            System.setOut(out);
            remove(place);
        }
        return said.toString().lines().toList();
    }

    private static void remove(Path place) throws IOException {
        try (Stream<Path> files = Files.list(place)) {
            for (Path file : files.toList()) Files.delete(file);
        }
        Files.delete(place);
    }

    private static void names(String page, Path root) throws IOException {
        for (Method m : DawnTable.class.getDeclaredMethods()) {
            if (!Modifier.isPublic(m.getModifiers())) continue;
            Matcher row = Pattern.compile("\\| `" + m.getName() + "\\(([^)]*)\\)` \\|").matcher(page);
            int parameters = !row.find() ? -1 : row.group(1).isEmpty() ? 0 : row.group(1).split(", ").length;
            if (parameters != m.getParameterCount()) tell("README.md does not name " + m);
        }
        try (Stream<Path> files = Files.list(root.resolve("src/test/java"))) {
            for (Path file : files.toList()) {
                String name = file.getFileName().toString().replace(".java", "");
                if (!page.contains(name)) tell("README.md does not name " + name);
            }
        }
    }
}
