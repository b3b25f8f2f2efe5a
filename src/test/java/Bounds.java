import java.lang.reflect.InvocationTargetException;
import java.lang.reflect.Method;
import java.nio.charset.StandardCharsets;
import java.nio.file.Files;
import java.nio.file.Path;
import java.util.ArrayList;
import java.util.Arrays;
import java.util.List;

/** What the tests of boundary cases share: each is a method with a Remark, made of runs of calls. */
abstract class Bounds {
    private static final Path DOCUMENT = Path.of("../shared/DOC.md");

    /**
     * An evening in which nothing is as at first, so that a refused call that changes something is seen: PANES 0 to 4, the first one SHOWN,
     * two RULES, three REPORTS, two ROWS, SHEETS of bytes (0), of ints (1), missing (2) and of booleans (3), SHELVES with PANE 3, the row of
     * ints, nothing and PANE 4, a TRACE of eleven; what is kept is unlike it. THE TAPE is empty.
     */
    static final String[] HOUSE = {
        "news(1, 9) = 4", "news(15, 6) = 4", "ward(0, 0, 1) = 0", "ward(1, 1, 5) = 3",
        "pane(1, 60, 0) = 0", "pane(2, 201, 1) = 1", "pane(4, 15, 2) = 2", "pane(5, 119, 0) = 3",
        "report(0, 1, 5, 5) = 0", "report(3, 0, 2, 4) = 1", "tape lad rag;", "rules() = 1", "seed(77) = 1", "keep() = 1",
        "pane(3, 90, 1) = 4", "minute() = 8", "tape sewer if fog>3 pass; lad if number<3 and looked=0 rag;", "rules() = 2",
        "report(4, 1, 0, 9) = 2", "seed(5) = 77", "prove(2) = 2",
        "sheet(0, 0, 5) = 1", "write(0, 1, 2) = 1", "write(0, 2, 99) = 1", "write(0, 3, 4) = 1",
        "sheet(1, 2, 3) = 1", "write(1, 2, -70000) = 1", "sheet(3, 4, 2) = 1", "write(3, 1, 9) = 1",
        "shelf(0, 0, 3) = 1", "shelf(1, 1, 1) = 1", "shelf(3, 0, 4) = 1", "act(3, 3, 5) = 7"};

    /** HOUSE, with bytes on THE TAPE. */
    static final String[] FED_HOUSE = with(HOUSE, "tape dog rag;");

    private final List<String> wrong = new ArrayList<>();
    private int checks = 0;

    static String[] with(String[] lines, String... more) {
        String[] all = Arrays.copyOf(lines, lines.length + more.length);
        System.arraycopy(more, 0, all, lines.length, more.length);
        return all;
    }

    /** The same call again and again, each time with the same answer. */
    static String[] times(int n, String line) {
        String[] all = new String[n];
        Arrays.fill(all, line);
        return all;
    }

    /** A run of calls on a new object. */
    final void run(String... lines) {
        take(new Run(lines));
    }

    /** A run of calls on a HOUSE with bytes on THE TAPE. */
    final void inHouse(String... lines) {
        run(with(FED_HOUSE, lines));
    }

    /** Two runs behind which all that can be read is alike. */
    final void alike(String[] lines, String[] others) {
        Run one = new Run(lines);
        Run other = new Run(others);
        String unlike = one.unlike(other);
        take(one);
        take(other);
        check(unlike == null, "two runs leave things unlike: " + unlike);
    }

    final void check(boolean holds, String otherwise) {
        checks++;
        if (!holds) {
            wrong.add(otherwise);
        }
    }

    final void take(Run run) {
        checks += run.checks();
        wrong.addAll(run.wrong());
    }

    /** The tests of a class, in the order of their names. */
    static List<Method> tests(Class<? extends Bounds> of) {
        List<Method> tests = new ArrayList<>();
        for (Method m : of.getDeclaredMethods()) {
            if (m.isAnnotationPresent(Remark.class)) {
                tests.add(m);
            }
        }
        tests.sort((a, b) -> a.getName().compareTo(b.getName()));
        return tests;
    }

    /** The words of a part of the document ("What it is", "Promise 2", "Terms", "Terms 1"), with single blanks alone. */
    static String part(String name) throws Exception {
        String text = Files.readString(DOCUMENT, StandardCharsets.UTF_8).replace("```text", " ").replace("```", " ").replaceAll("\\s+", " ");
        String from = "## " + name + (name.startsWith("Promise ") ? ": " : " ");
        if (name.startsWith("Terms ")) {
            from = "======== " + name.substring("Terms ".length()) + " ";
        }
        String to = name.startsWith("Terms") ? name.equals("Terms 3") ? "Ahead of the calls `pane`" : "========" : "## ";
        int begins = text.indexOf(from);
        if (begins < 0) {
            return "";
        }
        int ends = text.indexOf(to, begins + from.length());
        return text.substring(begins, ends < 0 ? text.length() : ends);
    }

    private static boolean stands(String remark) throws Exception {
        int colon = remark.indexOf(": ");
        String part = part(remark.substring(0, Math.max(colon, 0)));
        int at = 0;
        for (String words : remark.substring(colon + 2).split(" \\.\\. ")) {
            int found = part.indexOf(words, at);
            if (found < 0) {
                return false;
            }
            at = found + words.length();
        }
        return true;
    }

    private void hold(Method test) throws Exception {
        String remark = test.getAnnotation(Remark.class).value();
        if (Files.exists(DOCUMENT)) {
            check(stands(remark), "these words are not in the document");
        }
        try {
            test.setAccessible(true);
            test.invoke(this);
        } catch (InvocationTargetException e) {
            check(false, "the test threw " + e.getCause());
        }
        for (String each : wrong) {
            System.out.println(test.getName() + " (" + remark + "): " + each);
        }
    }

    /** Runs all tests of a class; the program ends with 1, if one fails. */
    static void holdAll(Class<? extends Bounds> of) throws Exception {
        int passed = 0;
        int failed = 0;
        int checks = 0;
        for (Method test : tests(of)) {
            Bounds each = of.getDeclaredConstructor().newInstance();
            each.hold(test);
            checks += each.checks;
            if (each.wrong.isEmpty()) {
                passed++;
            } else {
                failed++;
            }
        }
        if (!Files.exists(DOCUMENT)) {
            System.out.println("there is no " + DOCUMENT + ": the remarks were not looked up");
        }
        System.out.println(of.getName() + ": " + passed + " passed (" + checks + " checks), " + failed + " failed");
        if (failed > 0 || passed == 0) {
            System.exit(1);
        }
    }
}
