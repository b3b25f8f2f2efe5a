import java.lang.reflect.InvocationTargetException;
import java.lang.reflect.Method;
import java.util.ArrayList;
import java.util.HashMap;
import java.util.List;
import java.util.Map;
import java.util.regex.Matcher;
import java.util.regex.Pattern;

/**
 * A run of calls on one new object, told in lines:
 *
 * <pre>
 *   pane(1, 60, 0) = 0     the call answers 0
 *   pane(6, 60, 0) ! -1    it is refused with -1, and changes nothing
 *   on(16) ? 41            it is asked and answers 41, and changes nothing
 *   on(16) ? any           it is asked, and changes nothing
 *   tape dog rag;          THE TAPE takes these bytes
 * </pre>
 *
 * That nothing is changed is seen on two further objects with the same calls behind them, one with this call and one without it:
 * all that can be read of them must be alike.
 */
final class Run {
    /** The document says nothing of an object behind so many calls. */
    private static final int MOST_CALLS = 512;
    private static final Pattern LINE = Pattern.compile("(\\w+\\(.*\\)) ([=!?]) (-?\\w+)");
    private static final Pattern CALL = Pattern.compile("(\\w+)\\((.*)\\)");
    private static final Map<String, Method> METHODS = new HashMap<>();

    static {
        for (Method m : PaneScenes.class.getMethods()) {
            if (m.getDeclaringClass() == PaneScenes.class) {
                METHODS.put(m.getName(), m);
            }
        }
    }

    private final PaneScenes object = new PaneScenes();
    private final List<String> calls = new ArrayList<>();
    private final List<String> wrong = new ArrayList<>();
    private int count = 0;
    private int checks = 0;

    Run(String... lines) {
        go(lines);
    }

    Run go(String... lines) {
        for (String line : lines) {
            step(line);
        }
        return this;
    }

    private void step(String line) {
        if (line.startsWith("tape ")) {
            feed(line.substring("tape ".length()));
            return;
        }
        Matcher m = LINE.matcher(line);
        if (!m.matches()) {
            throw new IllegalArgumentException(line);
        }
        if (!m.group(2).equals("=")) {
            Run without = new Run().replay(calls);
            Run with = new Run().replay(calls);
            with.call(m.group(1));
            String unlike = with.unlike(without);
            check(unlike == null, m.group(1) + " changed something: " + unlike);
        }
        int got = call(m.group(1));
        String due = m.group(3);
        check(due.equals("any") || got == number(due), m.group(1) + " answered " + got + ", due is " + due);
    }

    private void check(boolean holds, String otherwise) {
        checks++;
        if (!holds) {
            wrong.add(otherwise);
        }
    }

    private Run replay(List<String> earlier) {
        for (String call : earlier) {
            call(call);
        }
        return this;
    }

    private void feed(String text) {
        for (int i = 0; i < text.length(); i += 8) {
            int n = Math.min(8, text.length() - i);
            long eight = 0;
            for (int j = 0; j < n; j++) {
                eight |= (long) (text.charAt(i + j) & 255) << 8 * j;
            }
            call("feed(" + eight + ", " + n + ")");
        }
    }

    private static int number(String told) {
        return told.equals("MIN") ? Integer.MIN_VALUE : told.equals("MAX") ? Integer.MAX_VALUE : Integer.parseInt(told);
    }

    int call(String call) {
        Matcher m = CALL.matcher(call);
        Method method = m.matches() ? METHODS.get(m.group(1)) : null;
        if (method == null) {
            throw new IllegalArgumentException(call);
        }
        String[] told = m.group(2).isEmpty() ? new String[0] : m.group(2).split(", ");
        Object[] arguments = new Object[told.length];
        for (int i = 0; i < told.length; i++) {
            boolean isLong = method.getParameterTypes()[i] == long.class;
            arguments[i] = isLong ? (Object) Long.parseLong(told[i]) : (Object) number(told[i]);
        }
        count++;
        if (count > MOST_CALLS) {
            throw new IllegalStateException("more than " + MOST_CALLS + " calls on one object");
        }
        calls.add(call);
        try {
            return (Integer) method.invoke(object, arguments);
        } catch (InvocationTargetException e) {
            wrong.add(call + " threw " + e.getCause());
            return Integer.MIN_VALUE;
        } catch (IllegalAccessException e) {
            throw new IllegalStateException(e);
        }
    }

    /** The first answer in which all that can be read of two runs' objects is unlike, or null; both are used up by it. */
    String unlike(Run other) {
        List<String> mine = face();
        List<String> others = other.face();
        for (int i = 0; i < Math.min(mine.size(), others.size()); i++) {
            if (!mine.get(i).equals(others.get(i))) {
                return mine.get(i) + ", not " + others.get(i);
            }
        }
        return mine.size() == others.size() ? null : "one can be read further";
    }

    /** All that can be read of the object; reading it changes it, but two objects that are alike in the same way. */
    private List<String> face() {
        List<String> read = new ArrayList<>();
        int[] many = new int[7];
        for (int what = 0; what < many.length; what++) {
            many[what] = read(read, "many(" + what + ")");
        }
        for (int i = 0; i <= many[6]; i++) {
            read(read, "trace(" + i + ")");
        }
        for (int k = 0; k < many[4]; k++) {
            for (int what = 0; what < 3; what++) {
                read(read, "row(" + k + ", " + what + ")");
            }
        }
        readShelvesAndSheets(read);
        readEvening(read);
        // what THE TAPE has is seen by the rules that it tells
        read(read, "rules()");
        readWills(read);
        if (read(read, "again()") >= 0) {
            readEvening(read);
        }
        return read;
    }

    private int read(List<String> read, String call) {
        int answer = call(call);
        read.add(call + " answered " + answer);
        return answer;
    }

    private void readShelvesAndSheets(List<String> read) {
        for (int shelf = 0; shelf < 4; shelf++) {
            read(read, "taken(" + shelf + ", 0)");
            for (int as = 10; as <= 14; as++) {
                read(read, "taken(" + shelf + ", " + as + ")");
            }
        }
        for (int sheet = 0; sheet < 4; sheet++) {
            call("shelf(0, 1, " + sheet + ")");
            for (int sort = 0; sort < 5; sort++) {
                int size = read(read, "taken(0, " + (10 + sort) + ")");
                for (int i = 0; i < size; i++) {
                    read(read, "item(" + sheet + ", " + sort + ", " + i + ")");
                }
            }
        }
    }

    private void readEvening(List<String> read) {
        for (int what = 0; what <= 7; what++) {
            read(read, "state(" + what + ")");
        }
        int panes = read(read, "many(0)");
        for (int k = 0; k < panes; k++) {
            for (int what = 0; what <= 7; what++) {
                read(read, "paneOf(" + k + ", " + what + ")");
            }
        }
        for (int f = 0; f < 6; f++) {
            read(read, "wardOf(" + f + ", 0)");
            read(read, "wardOf(" + f + ", 1)");
        }
        read(read, "who(0)");
        read(read, "who(1)");
        read(read, "who(2)");
        read(read, "liar()");
        read(read, "forget()");
        read(read, "seed(3)");
        for (int m = 0; m < 16; m++) {
            read(read, "news(" + m + ", 3)");
        }
        read(read, "many(1)");
        readWills(read);
    }

    /** THE RULES, by what they tell in several fogs. */
    private void readWills(List<String> read) {
        int panes = call("many(0)");
        for (int fog = 0; fog <= 9; fog += 4) {
            call("lord(0, " + fog + ")");
            for (int k = 0; k < panes; k++) {
                read(read, "paneOf(" + k + ", 8)");
            }
        }
    }

    List<String> wrong() {
        return wrong;
    }

    int checks() {
        return checks;
    }
}
