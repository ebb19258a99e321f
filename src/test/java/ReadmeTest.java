import java.io.ByteArrayOutputStream;
import java.io.File;
import java.io.IOException;
import java.io.PrintStream;
import java.lang.reflect.InvocationTargetException;
import java.lang.reflect.Method;
import java.lang.reflect.Modifier;
import java.net.URL;
import java.net.URLClassLoader;
import java.nio.charset.StandardCharsets;
import java.nio.file.Files;
import java.nio.file.Path;
import java.util.Comparator;
import java.util.List;
import java.util.Set;
import java.util.TreeSet;
import java.util.regex.Matcher;
import java.util.regex.Pattern;
import java.util.stream.Collectors;
import java.util.stream.Stream;
import javax.tools.JavaCompiler;
import javax.tools.ToolProvider;

/** README.md does what it says: its program, its texts with faults, its tables of calls, its list of tests. */
public final class ReadmeTest {
    private static final String CLASS_FILE = "src/main/java/TileHeel.java";
    private static final Path TESTS = Path.of("src/test/java");

    private final Check check = new Check("ReadmeTest");
    private final String page;

    private ReadmeTest(String page) {
        this.page = page;
    }

    public static void main(String[] args) throws IOException, ReflectiveOperationException {
        ReadmeTest all = new ReadmeTest(Files.readString(Path.of("README.md"), StandardCharsets.UTF_8));
        all.program();
        all.faults();
        all.calls();
        all.tests();
        all.check.close();
    }

    /** What stands between the first line that is the first one and the line that is the last one behind it. */
    private String block(String first, String last) {
        int from = page.indexOf("\n" + first + "\n");
        int to = from < 0 ? -1 : page.indexOf("\n" + last + "\n", from + first.length() + 1);
        check.due("a block that begins with " + first, to >= 0, true);
        return to < 0 ? "" : page.substring(from + first.length() + 2, to + 1);
    }

    // ---- the program

    private void program() throws IOException, ReflectiveOperationException {
        Path folder = Files.createTempDirectory("readme");
        try {
            Path source = folder.resolve("Example.java");
            Files.writeString(source, block("```java", "```"), StandardCharsets.UTF_8);
            check.due("the page tells how to compile it",
                page.contains("    javac -d /tmp/example " + CLASS_FILE + " Example.java\n    java -cp /tmp/example Example\n"), true);
            JavaCompiler compiler = ToolProvider.getSystemJavaCompiler();
            int errors = compiler.run(null, System.out, System.out, "-d", folder.toString(), CLASS_FILE, source.toString());
            check.due("errors of the compiler", errors, 0);
            if (errors == 0) {
                sameLines(printed(folder), block("```text", "```"));
            }
        } finally {
            clear(folder);
        }
    }

    private static String printed(Path folder) throws IOException, ReflectiveOperationException {
        PrintStream before = System.out;
        ByteArrayOutputStream lines = new ByteArrayOutputStream();
        URL[] classes = {folder.toUri().toURL()};
        try (URLClassLoader loader = new URLClassLoader(classes, ClassLoader.getPlatformClassLoader())) {
            System.setOut(new PrintStream(lines, true, StandardCharsets.UTF_8));
            loader.loadClass("Example").getMethod("main", String[].class).invoke(null, (Object) new String[0]);
        } catch (InvocationTargetException thrown) {
            lines.writeBytes(("thrown: " + thrown.getCause()).getBytes(StandardCharsets.UTF_8));
        } finally {
            System.setOut(before);
        }
        return lines.toString(StandardCharsets.UTF_8);
    }

    private void sameLines(String got, String want) {
        List<String> gotLines = got.lines().collect(Collectors.toList());
        List<String> wantLines = want.lines().collect(Collectors.toList());
        check.due("lines that the program prints", gotLines.size(), wantLines.size());
        for (int k = 0; k < Math.min(gotLines.size(), wantLines.size()); k++) {
            check.due("it prints \"" + gotLines.get(k) + "\", the page has \"" + wantLines.get(k) + "\"",
                gotLines.get(k).equals(wantLines.get(k)), true);
        }
    }

    private static void clear(Path folder) throws IOException {
        try (Stream<Path> all = Files.walk(folder)) {
            all.sorted(Comparator.reverseOrder()).map(Path::toFile).forEach(File::delete);
        }
    }

    // ---- the tables

    private void faults() {
        Set<Integer> told = new TreeSet<>();
        Matcher row = Pattern.compile("(?m)^\\| `([^`]*)` \\| (\\d) \\| (\\d+) \\|$").matcher(page);
        while (row.find()) {
            TileHeel x = new TileHeel();
            check.due("town() of " + row.group(1), Check.town(x, row.group(1)), TileHeel.NONE);
            check.due("the fault of " + row.group(1), x.fault(0), Integer.parseInt(row.group(2)));
            check.due("its place in " + row.group(1), x.fault(1), Integer.parseInt(row.group(3)));
            told.add(x.fault(0));
        }
        check.due("kinds of faults that have a text", told.size(), 5);
    }

    private void calls() {
        Set<String> told = new TreeSet<>();
        Matcher row = Pattern.compile("(?m)^\\| `(\\w+)\\(([^`)]*)\\)` \\|").matcher(page);
        while (row.find()) {
            int arguments = row.group(2).isEmpty() ? 0 : row.group(2).split(",").length;
            check.due("told once: " + row.group(1), told.add(row.group(1) + " with " + arguments), true);
        }
        Set<String> there = new TreeSet<>();
        for (Method m : TileHeel.class.getDeclaredMethods()) {
            if (Modifier.isPublic(m.getModifiers())) {
                there.add(m.getName() + " with " + m.getParameterCount());
            }
        }
        check.due("the class has " + there + ", the page " + told, told.equals(there), true);
    }

    private void tests() throws IOException {
        try (Stream<Path> files = Files.list(TESTS)) {
            for (Path file : files.collect(Collectors.toList())) {
                String name = file.getFileName().toString().replace(".java", "");
                check.due("the page has " + name, !name.endsWith("Test") || page.contains("`" + name + "`"), true);
            }
        }
        check.due("what runs the tests", Files.isExecutable(Path.of(".ci/run")) && page.contains("\n    .ci/run\n"), true);
    }
}
