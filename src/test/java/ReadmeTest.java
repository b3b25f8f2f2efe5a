import java.io.File;
import java.lang.reflect.InvocationTargetException;
import java.net.URL;
import java.net.URLClassLoader;
import java.nio.file.Files;
import java.nio.file.Path;
import java.util.ArrayList;
import java.util.List;
import java.util.regex.Matcher;
import java.util.regex.Pattern;
import java.util.stream.Stream;
import javax.tools.JavaCompiler;
import javax.tools.ToolProvider;

/** README.md: its example answers what it says, and its tables have every call of the document, with the refusals of its promise. */
public final class ReadmeTest {
    private static final String CODES = "\\b(?:BAD|FULL|NONE|STATE)\\b|(?<![\\w-])-(?:9|1[1-5])\\b";
    private static int passed = 0;
    private static int failed = 0;

    private static void check(boolean holds, String otherwise) {
        if (holds) {
            passed++;
        } else {
            failed++;
            System.out.println(otherwise);
        }
    }

    private static List<String> all(String pattern, String text) {
        List<String> found = new ArrayList<>();
        Matcher m = Pattern.compile(pattern).matcher(text);
        while (m.find()) {
            found.add(m.group());
        }
        return found;
    }

    /** The calls of the document's face, without types: "pane(kind, scene, ward)". */
    private static List<String> face(String document) {
        List<String> calls = new ArrayList<>();
        for (String line : all("public int \\w+\\(.*?\\);", document)) {
            calls.add(line.replaceAll("^public int |;$", "").replaceAll("\\b(int|long) ", ""));
        }
        return calls;
    }

    private static void tables(String readme, String document) {
        List<String> rows = new ArrayList<>();
        Matcher m = Pattern.compile("(?m)^\\| `(\\w+\\(.*?\\))` \\| .* \\|(.*)\\|$").matcher(readme);
        while (m.find()) {
            rows.add(m.group(1));
            int promise = rows.size() + 1;
            List<String> due = all(CODES, promise(document, promise));
            List<String> told = all(CODES, m.group(2));
            check(told.equals(due), m.group(1) + " is refused with " + told + " by README.md, with " + due + " by promise " + promise);
        }
        check(rows.equals(face(document)), "README.md has the calls " + rows + ", the document " + face(document));
    }

    private static String promise(String document, int number) {
        Matcher m = Pattern.compile("(?s)## Promise " + number + ": .*?(?=\n## )").matcher(document);
        return m.find() ? m.group() : "";
    }

    /** The example as it stands, but that each call whose comment begins with a number is held against it. */
    private static String example(String readme) {
        Matcher m = Pattern.compile("(?s)```java\n(.*?)```").matcher(readme);
        if (!m.find()) {
            return "";
        }
        Matcher calls = Pattern.compile("(?m)^( +)(x\\.\\w+\\(.*?\\)); +// (-?\\d+)\\b.*$").matcher(m.group(1));
        return calls.replaceAll("$1ReadmeTest.due(\"$2\", $2, $3);");
    }

    /** Public, since the example comes from another loader. */
    public static void due(String call, int got, int want) {
        check(got == want, "the example's " + call + " answered " + got + ", README.md says " + want);
    }

    private static void runExample(String source) throws Exception {
        int told = all("ReadmeTest\\.due\\(", source).size();
        check(told > 0, "the example tells no answers");
        JavaCompiler compiler = ToolProvider.getSystemJavaCompiler();
        Path folder = Files.createTempDirectory("readme");
        try {
            Path file = Files.writeString(folder.resolve("Example.java"), source);
            int exit = compiler.run(null, null, null, "-cp", System.getProperty("java.class.path"), "-d", folder.toString(), file.toString());
            check(exit == 0, "the example doesn't compile");
            int before = passed + failed;
            try (URLClassLoader loader = new URLClassLoader(new URL[] {folder.toUri().toURL()}, ReadmeTest.class.getClassLoader())) {
                loader.loadClass("Example").getMethod("main", String[].class).invoke(null, (Object) new String[0]);
            } catch (InvocationTargetException | ClassNotFoundException e) {
                check(false, "the example doesn't run: " + e.getCause());
            }
            check(passed + failed - before == told, "the example doesn't come to all its answers");
        } finally {
            try (Stream<Path> made = Files.list(folder)) {
                made.map(Path::toFile).forEach(File::delete);
            }
            Files.delete(folder);
        }
    }

    /** README.md names every test of the project. */
    private static void tests(String readme) throws Exception {
        try (Stream<Path> files = Files.list(Path.of("src/test/java"))) {
            for (Path file : (Iterable<Path>) files.sorted()::iterator) {
                String name = file.getFileName().toString().replace(".java", "");
                String named = name.endsWith("BoundsTest") ? "`*BoundsTest`" : "`" + name + "`";
                check(!name.endsWith("Test") || readme.contains(named), "README.md doesn't name " + name);
            }
        }
    }

    public static void main(String[] args) throws Exception {
        String readme = Files.readString(Path.of("README.md"));
        String document = Files.readString(Path.of("../shared/DOC.md"));
        tables(readme, document);
        runExample(example(readme));
        tests(readme);
        System.out.println("ReadmeTest: " + passed + " passed, " + failed + " failed");
        if (failed > 0) {
            System.exit(1);
        }
    }
}
