import java.lang.reflect.Method;
import java.util.ArrayList;
import java.util.List;
import java.util.Random;

/** Long random runs on PaneScenes and on Model side by side; every answer and the whole state must be alike. */
public final class ModelTest {
    /** A call and the sorts of its arguments; the number says how often it is taken. */
    private static final String[] CALLS = {
        "8 pane kind scene ward", "12 paneOf pane upto10", "12 change pane upto5 small", "6 change pane one scene",
        "4 remake pane kind", "5 news minute upto16", "6 ward ward upto2 upto10", "2 wardOf ward upto2", "6 lord upto2 small",
        "3 lord one purse", "4 ends upto17", "3 anew", "6 state upto8", "3 feed long upto9", "2 rules", "10 TEXT",
        "10 minute", "4 on upto17", "4 when pane", "1 sceneFor pane", "2 wardFor pane", "4 dark pane", "4 back pane",
        "4 companies company", "3 tour scene upto2", "2 best plan", "2 ith plan upto4", "2 ways plan", "3 visit plan set",
        "3 bars plan set", "2 game plan", "2 play plan", "8 report upto16 upto2 upto16 upto16", "1 forget", "2 who upto3", "2 liar",
        "2 seed any", "4 lot", "2 times upto41 worth", "3 prove plan", "3 row upto4 upto3", "3 alterRow upto4 upto3 small", "3 judge",
        "6 sheet sheet sort size", "10 write sheet size small", "4 write sheet size any", "6 item sheet sort size", "4 goAll sheet size upto21", "4 wouldBe sheet size upto21",
        "6 shelf shelf upto3 pane", "6 taken shelf taken", "8 act shelf upto4 any", "6 trace upto31", "4 many upto7", "1 keep", "1 again"};

    private static final int[] EDGES = {Integer.MIN_VALUE, Integer.MAX_VALUE, -1, -2, 1000000, 256, 0x7fffffe0};

    private final Random random;
    private final List<String[]> calls = new ArrayList<>();

    private ModelTest(long seed) {
        random = new Random(seed);
        for (String call : CALLS) {
            String[] parts = call.split(" ");
            for (int i = 0; i < Integer.parseInt(parts[0]); i++) {
                calls.add(parts);
            }
        }
    }

    private long argument(String sort) {
        if (!sort.equals("long") && random.nextInt(40) == 0) {
            return EDGES[random.nextInt(EDGES.length)];
        }
        if (sort.startsWith("upto")) {
            return random.nextInt(Integer.parseInt(sort.substring(4)) + 1);
        }
        switch (sort) {
            case "kind": return 1 + random.nextInt(5) + (random.nextInt(20) == 0 ? 1 : 0);
            case "scene": return random.nextInt(257);
            case "ward": case "pane": return random.nextInt(6);
            case "minute": return random.nextInt(16);
            case "small": return random.nextInt(12) - 1;
            case "one": return 1;
            case "purse": return random.nextInt(60);
            case "company": return random.nextInt(8) - 1;
            case "plan": return random.nextInt(random.nextInt(4) == 0 ? 6 : 4);
            case "set": return random.nextInt(20) == 0 ? random.nextInt(64) : 1 << random.nextInt(4) | 1 << random.nextInt(3);
            case "worth": return random.nextInt(50);
            case "sheet": case "shelf": return random.nextInt(20) == 0 ? 4 : random.nextInt(4);
            case "sort": return random.nextInt(3) == 0 ? random.nextInt(7) - 1 : 0;
            case "size": return random.nextInt(10) == 0 ? random.nextInt(44) - 2 : random.nextInt(8);
            case "taken": return random.nextInt(16);
            case "any": return random.nextBoolean() ? random.nextInt(41) - 20 : random.nextInt();
            case "long": return random.nextLong();
            default: throw new IllegalArgumentException(sort);
        }
    }

    private String oneOf(String words) {
        String[] all = words.split(" ");
        return all[random.nextInt(all.length)];
    }

    private String value() {
        return random.nextInt(3) == 0 ? String.valueOf(random.nextInt(8)) : oneOf("minute lights looked fog number 3 4 5");
    }

    private String condition(int open) {
        StringBuilder s = new StringBuilder();
        do {
            if (s.length() > 0) {
                s.append(oneOf("or and")).append(' ');
            }
            while (random.nextInt(4) == 0) {
                s.append("not ");
            }
            if (open < 4 && random.nextInt(4) == 0) {
                s.append('(').append(condition(open + 1)).append(')');
            } else {
                s.append(value()).append(oneOf("< = > < = > < = >")).append(value()).append(' ');
            }
        } while (random.nextInt(3) == 0);
        return s.toString();
    }

    private String text() {
        StringBuilder s = new StringBuilder();
        int n = random.nextInt(5) == 0 ? 9 : random.nextInt(4);
        boolean isShort = n > 4;
        for (int i = 0; i < n; i++) {
            s.append(oneOf("pane navvy sewer widow lad dog")).append(' ');
            if (!isShort && random.nextInt(5) > 0) {
                s.append("if ").append(condition(0));
            }
            s.append(oneOf("look pass rag")).append(oneOf("; ;; ;").replace(";;", " ;"));
        }
        if (random.nextInt(3) == 0 && s.length() > 0) {
            int at = random.nextInt(s.length());
            switch (random.nextInt(4)) {
                case 0: s.deleteCharAt(at); break;
                case 1: s.insert(at, oneOf("( ) ; < 7 12345 if or and not look pane x A")); break;
                case 2: s.setCharAt(at, (char) random.nextInt(256)); break;
                default: s.setLength(at); break;
            }
        }
        return s.length() > 200 ? s.substring(0, 200) : s.toString();
    }

    private static Object call(Object on, String name, Object[] arguments) throws Exception {
        for (Method m : on.getClass().getDeclaredMethods()) {
            if (m.getName().equals(name) && !m.isSynthetic()) {
                m.setAccessible(true);
                return m.invoke(on, arguments);
            }
        }
        throw new IllegalArgumentException(name);
    }

    private final List<String> told = new ArrayList<>();

    private boolean alike(PaneScenes x, Model m, String name, Object... arguments) throws Exception {
        Object got = call(x, name, arguments);
        Object due = call(m, name, arguments);
        StringBuilder s = new StringBuilder(name).append('(');
        for (Object a : arguments) {
            s.append(s.charAt(s.length() - 1) == '(' ? "" : ", ").append(a);
        }
        told.add(s.append(") = ").append(got).toString());
        if (!got.equals(due)) {
            told.add("due is " + due);
            return false;
        }
        return true;
    }

    private boolean sameState(PaneScenes x, Model m) throws Exception {
        boolean same = true;
        for (int i = 0; i < 8; i++) {
            same &= x.state(i) == m.state(i) && x.many(i) == m.many(i);
        }
        for (int k = 0; k < 6; k++) {
            for (int what = 0; what < 10; what++) {
                same &= x.paneOf(k, what) == m.paneOf(k, what);
            }
            same &= x.wardOf(k, 0) == m.wardOf(k, 0) && x.wardOf(k, 1) == m.wardOf(k, 1);
        }
        for (int k = 0; k < 4; k++) {
            for (int what = 0; what < 3; what++) {
                same &= x.row(k, what) == m.row(k, what);
            }
        }
        if (!same) {
            told.add("the states are unlike");
        }
        return same;
    }

    private boolean step(PaneScenes x, Model m) throws Exception {
        String[] parts = calls.get(random.nextInt(calls.size()));
        if (!parts[1].equals("TEXT")) {
            Object[] arguments = new Object[parts.length - 2];
            for (int i = 0; i < arguments.length; i++) {
                long a = argument(parts[i + 2]);
                arguments[i] = parts[i + 2].equals("long") ? (Object) a : (Object) (int) a;
            }
            return alike(x, m, parts[1], arguments);
        }
        String text = text();
        if (x.many(5) > 0 && random.nextInt(3) > 0 && !alike(x, m, "rules")) {
            return false;
        }
        for (int i = 0; i < text.length(); i += 8) {
            int n = Math.min(8, text.length() - i);
            long eight = 0;
            for (int j = 0; j < n; j++) {
                eight |= (long) text.charAt(i + j) << 8 * j;
            }
            if (!alike(x, m, "feed", eight, n)) {
                return false;
            }
        }
        told.add("\"" + text + "\"");
        return alike(x, m, "rules");
    }

    private boolean run() throws Exception {
        PaneScenes x = new PaneScenes();
        Model m = new Model();
        int steps = 40 + random.nextInt(160);
        int panes = random.nextInt(7);
        for (int k = 0; k < panes; k++) {
            if (!alike(x, m, "pane", (int) argument("kind"), (int) argument("scene"), (int) argument("ward"))) {
                return false;
            }
        }
        for (int i = 0; i < steps; i++) {
            if (!step(x, m) || !sameState(x, m)) {
                return false;
            }
        }
        return true;
    }

    public static void main(String[] args) throws Exception {
        int runs = args.length > 0 ? Integer.parseInt(args[0]) : 400;
        int wrong = 0;
        for (int seed = 0; seed < runs && wrong < 3; seed++) {
            ModelTest test = new ModelTest(seed);
            if (!test.run()) {
                wrong++;
                System.out.println("run " + seed + " is unlike the model:");
                test.told.forEach(System.out::println);
            }
        }
        System.out.println("ModelTest: " + (runs - wrong) + " passed, " + wrong + " failed");
        if (wrong > 0) {
            System.exit(1);
        }
    }
}
