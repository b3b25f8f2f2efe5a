import java.lang.management.ManagementFactory;
import java.lang.reflect.Constructor;
import java.lang.reflect.Field;
import java.lang.reflect.Method;
import java.lang.reflect.Modifier;
import java.nio.file.Files;
import java.nio.file.Path;
import java.util.ArrayList;
import java.util.List;
import java.util.Random;
import java.util.TreeSet;
import java.util.regex.Matcher;
import java.util.regex.Pattern;

/** The face, what a reading of the source can tell of LANGUAGE.md's rules, and calls with any arguments. */
public final class LanguageTest {
    private static final String[] FACE = {"pane III", "paneOf II", "change III", "remake II", "news II", "ward III", "wardOf II", "lord II",
        "ends I", "anew ", "state I", "feed JI", "rules ", "minute ", "on I", "when I", "sceneFor I", "wardFor I", "dark I", "back I", "companies I",
        "tour II", "best I", "ith II", "ways I", "visit II", "bars II", "game I", "play I", "report IIII", "forget ", "who I", "liar ", "seed I", "lot ",
        "times II", "prove I", "row II", "alterRow III", "judge ", "sheet III", "write III", "item III", "goAll III", "wouldBe III", "shelf III",
        "taken II", "act III", "trace I", "many I", "keep ", "again "};

    private static int passed = 0;
    private static int failed = 0;

    private static void check(String what, boolean holds) {
        if (holds) {
            passed++;
        } else {
            failed++;
            System.out.println("not so: " + what);
        }
    }

    private static String signature(Method m) {
        StringBuilder s = new StringBuilder(m.getName()).append(' ');
        for (Class<?> c : m.getParameterTypes()) {
            s.append(c == int.class ? 'I' : c == long.class ? 'J' : '?');
        }
        return s.toString();
    }

    private static void face() {
        Class<PaneScenes> c = PaneScenes.class;
        check("public final class", Modifier.isPublic(c.getModifiers()) && Modifier.isFinal(c.getModifiers()));
        check("one constructor", c.getDeclaredConstructors().length == 1);
        for (Constructor<?> made : c.getDeclaredConstructors()) {
            check("a public constructor without arguments", Modifier.isPublic(made.getModifiers()) && made.getParameterCount() == 0);
        }
        TreeSet<String> open = new TreeSet<>();
        TreeSet<String> names = new TreeSet<>();
        for (Method m : c.getDeclaredMethods()) {
            if (!Modifier.isPrivate(m.getModifiers())) {
                open.add(signature(m));
                names.add(m.getName());
                check(m + " is public, of the object and answers an int", Modifier.isPublic(m.getModifiers())
                    && !Modifier.isStatic(m.getModifiers()) && m.getReturnType() == int.class);
            }
        }
        check("the face is the document's: " + open, open.equals(new TreeSet<>(List.of(FACE))));
        TreeSet<String> constants = new TreeSet<>();
        for (Field f : c.getDeclaredFields()) {
            if (!Modifier.isPrivate(f.getModifiers())) {
                constants.add(f.getName());
            }
        }
        check("the constants are the document's", constants.equals(new TreeSet<>(List.of("BAD", "FULL", "NONE", "STATE"))));
        hidden(c, names);
        check("at most twelve classes", c.getDeclaredClasses().length <= 11);
    }

    private static void hidden(Class<?> c, TreeSet<String> names) {
        List<Class<?>> all = new ArrayList<>(List.of(c.getDeclaredClasses()));
        for (Class<?> inside : all) {
            check(inside + " is static and not public", Modifier.isStatic(inside.getModifiers()) && !Modifier.isPublic(inside.getModifiers())
                && !Modifier.isProtected(inside.getModifiers()));
        }
        all.add(c);
        for (Class<?> each : all) {
            int fields = 0;
            for (Field f : each.getDeclaredFields()) {
                fields += Modifier.isStatic(f.getModifiers()) ? 0 : 1;
                check(f + " is final, if static", !Modifier.isStatic(f.getModifiers()) || Modifier.isFinal(f.getModifiers()));
            }
            check(each + " has at most twenty fields", fields <= 20);
            for (Method m : each.getDeclaredMethods()) {
                check(m + " takes at most seven", m.getParameterCount() <= 7);
                check(m + " bears no public name", Modifier.isPublic(m.getModifiers()) || !names.contains(m.getName()));
            }
        }
    }

    private static void source() throws Exception {
        String text = Files.readString(Path.of("src/main/java/PaneScenes.java"));
        String bare = text.replaceAll("(?s)/\\*.*?\\*/", "").replaceAll("//[^\n]*", "").replaceAll("\"[^\"\n]*\"", "\"\"");
        for (String banned : new String[] {"throw", "throws", "try", "catch", "finally", "synchronized", "assert", "package", "yield", "volatile",
            "transient", "native", "Object", "Exact", "System\\.(?!arraycopy)", "->", "::", "Random", "Thread", "lambda", "interface \\w+ *\\{ *\\}"}) {
            String word = Character.isLetter(banned.charAt(0)) && !banned.contains("\\") ? "\\b" + banned + "\\b" : banned;
            check("no " + banned, !Pattern.compile(word).matcher(bare).find());
        }
        Matcher imports = Pattern.compile("(?m)^import (.*);").matcher(text);
        while (imports.find()) {
            check("import " + imports.group(1), imports.group(1).equals("java.util.Arrays"));
        }
        check("signs 1 to 127 alone", text.chars().allMatch(c -> c > 0 && c < 128));
        library(bare);
        lengths(text);
    }

    /** LANGUAGE.md, rule 4: "The library: only what stands here." */
    private static final String LIBRARY = "java\\.lang\\.Object\\.<init>"
        + "|java\\.lang\\.String\\.(<init>|length|charAt|isEmpty|equals|indexOf|substring|toCharArray)"
        + "|java\\.lang\\.StringBuilder\\.(<init>|append|charAt|setCharAt|setLength|deleteCharAt|reverse|length|toString)"
        + "|java\\.util\\.(Array)?List\\.(<init>|add|get|set|remove|size|isEmpty|clear|of)"
        + "|java\\.lang\\.(Integer|Long|Math)\\.[a-z]\\w*(?<!Exact)"
        + "|java\\.lang\\.System\\.arraycopy|java\\.util\\.Arrays\\.(copyOf|copyOfRange|fill)|\\[+\\w\\.clone";

    private static void library(String bare) throws Exception {
        List<Class<?>> all = new ArrayList<>(List.of(PaneScenes.class.getDeclaredClasses()));
        all.add(PaneScenes.class);
        for (Class<?> each : all) {
            for (String named : ClassFile.library(each)) {
                check(each + " uses " + named + ", which rule 4 has not", named.matches(LIBRARY));
            }
        }
        // javac puts a constant's number in its place, so that only the source tells it: rule 4 has functions alone
        Matcher constants = Pattern.compile("\\b(Integer|Long|Math)\\.\\w+\\b(?!\\()").matcher(bare);
        check("no constant of Integer, Long, Math", !constants.find());
    }

    private static void lengths(String text) {
        String[] lines = text.split("\n");
        int began = -1;
        String indent = "";
        for (int i = 0; i < lines.length; i++) {
            Matcher m = Pattern.compile("^( {4}| {8})(?!.*\\bclass\\b)(\\w.*)\\) \\{$").matcher(lines[i]);
            if (began < 0 && m.find() && !m.group(2).matches("(if|for|while|switch)\\b.*")) {
                began = i;
                indent = m.group(1);
            } else if (began >= 0 && lines[i].equals(indent + "}")) {
                check("the method at line " + (began + 1) + " is at most sixty lines long", i - began <= 60);
                began = -1;
            }
        }
    }

    private static final int[] EDGES = {Integer.MIN_VALUE, Integer.MIN_VALUE + 1, -16, -4, -1, 0, 1, 2, 3, 4, 5, 6, 7, 8, 9, 10, 15, 16, 20, 39, 40, 41,
        199, 200, 255, 256, 999, 1000, 1 << 30, Integer.MAX_VALUE - 1, Integer.MAX_VALUE};

    private static void anyArguments() {
        Method[] methods = PaneScenes.class.getMethods();
        List<Method> calls = new ArrayList<>();
        for (Method m : methods) {
            if (m.getDeclaringClass() == PaneScenes.class) {
                calls.add(m);
            }
        }
        calls.sort((a, b) -> signature(a).compareTo(signature(b)));
        Random random = new Random(17);
        for (int run = 0; run < 300; run++) {
            PaneScenes x = new PaneScenes();
            for (int i = 0; i < 512; i++) {
                Method m = calls.get(random.nextInt(calls.size()));
                Object[] arguments = new Object[m.getParameterCount()];
                for (int a = 0; a < arguments.length; a++) {
                    boolean isLong = m.getParameterTypes()[a] == long.class;
                    int v = random.nextInt(10) == 0 ? random.nextInt() : random.nextInt(3) == 0 ? EDGES[random.nextInt(EDGES.length)] : random.nextInt(6);
                    arguments[a] = isLong ? (Object) random.nextLong() : (Object) v;
                }
                try {
                    m.invoke(x, arguments);
                } catch (ReflectiveOperationException e) {
                    check(signature(m) + " of " + java.util.Arrays.toString(arguments) + " threw " + e.getCause(), false);
                    return;
                }
            }
        }
        check("no call throws", true);
    }

    private static long made() {
        return ((com.sun.management.ThreadMXBean) ManagementFactory.getThreadMXBean()).getThreadAllocatedBytes(Thread.currentThread().getId());
    }

    /** The dearest calls of each sort; the answers are summed so that they can't be left out. */
    private static int dear(PaneScenes x) {
        int sum = x.pane(5, 255, 5) + x.on(16) + x.sceneFor(0) + x.wardFor(0) + x.best(4) + x.ith(4, 3) + x.ways(4) + x.visit(4, 3);
        sum += x.bars(4, 3) + x.game(4) + x.play(4) + x.report(15, 0, 1, 5) + x.who(0) + x.liar() + x.times(40, 9) + x.prove(4) + x.judge();
        sum += x.feed(0x3b676172207a6f67L, 8) + x.rules() + x.sheet(0, 0, 40) + x.wouldBe(0, 0, 9) + x.shelf(0, 0, 0) + x.act(0, 3, 9);
        return sum + x.tour(9, 1) + x.companies(-1) + x.companies(0) + x.back(0) + x.dark(0) + x.keep() + x.again() + x.taken(0, 5);
    }

    private static void nothingMade() {
        PaneScenes x = new PaneScenes();
        int sum = dear(x) + dear(x);
        made();
        long before = made();
        long itself = made() - before;
        before = made();
        sum += dear(x);
        long bytes = made() - before - itself;
        check("calls make no objects (" + bytes + " bytes, sum " + sum + ")", bytes <= 0);
    }

    public static void main(String[] args) throws Exception {
        face();
        source();
        anyArguments();
        nothingMade();
        System.out.println("LanguageTest: " + passed + " passed, " + failed + " failed");
        if (failed > 0) {
            System.exit(1);
        }
    }
}
