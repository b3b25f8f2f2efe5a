import java.util.ArrayList;
import java.util.Arrays;
import java.util.HashMap;
import java.util.HashSet;
import java.util.List;
import java.util.Map;
import java.util.Set;
import java.util.TreeMap;
import java.util.function.Predicate;
import java.util.function.ToIntFunction;

/** The document again, written for plainness alone: every plan is a list, every thing an object, the host is Java's own. */
final class Model {
    static final int BAD = -1, FULL = -2, NONE = -3, STATE = -4;
    static final String[] KINDS = {"pane", "navvy", "sewer", "widow", "lad", "dog"};

    static final class Body {
        int kind, scene, ward, looked;
        boolean shown;

        Body copy() {
            Body b = new Body();
            b.kind = kind;
            b.scene = scene;
            b.ward = ward;
            b.looked = looked;
            b.shown = shown;
            return b;
        }
    }

    record Facts(int minute, int lights, int looked, int fog, int number) { }

    record Rule(int kind, Predicate<Facts> holds, int will) { }

    record Report(int k, int asked, int least, int most) { }

    static final class World {
        int end = 12, minute, fog, purse = 60, score, z = 1;
        int[] news = new int[16], rags = new int[6], bears = new int[6];
        List<Body> panes = new ArrayList<>();
        List<Rule> rules = List.of();
        List<Report> reports = new ArrayList<>();

        World copy() {
            World w = new World();
            w.end = end;
            w.minute = minute;
            w.fog = fog;
            w.purse = purse;
            w.score = score;
            w.z = z;
            w.news = news.clone();
            w.rags = rags.clone();
            w.bears = bears.clone();
            for (Body b : panes) {
                w.panes.add(b.copy());
            }
            w.rules = rules;
            w.reports = new ArrayList<>(reports);
            return w;
        }

        boolean over() {
            return minute >= end;
        }

        int lights(int k) {
            Body b = panes.get(k);
            int n = 0;
            for (int i = 0; i < 8; i++) {
                if ((b.scene & 1 << i) != 0) {
                    n++;
                }
            }
            n = n - rags[b.ward] - fog / 3;
            return n < 0 ? 0 : n;
        }

        static int asks(int kind, int lights, int number) {
            return switch (kind) {
                case 0 -> lights;
                case 1 -> 2 * lights;
                case 2 -> lights + number;
                case 3 -> 2 * (lights + number);
                case 4 -> lights > 3 ? 3 : lights;
                default -> (lights > 3 ? 3 : lights) + 1;
            };
        }

        /** By places of lights, not by shifts. */
        static int moved(int s, int places) {
            int to = 0;
            for (int i = 0; i < 8; i++) {
                if ((s & 1 << i) != 0) {
                    to |= 1 << Math.floorMod(i + places, 8);
                }
            }
            return to;
        }

        static int after(int kind, int s, int minute) {
            switch (kind) {
                case 0: return moved(s, 1);
                case 1: return moved(s, -1);
                case 2: return s ^ moved(s, 1);
                case 3: return minute % 2 == 1 ? 255 - (s ^ moved(s, 1)) : s ^ moved(s, 1);
                case 4: return moved(s, 2);
                default: return minute % 3 == 2 ? moved(s, 2) ^ 15 : moved(s, 2);
            }
        }

        boolean open(int k) {
            Body b = panes.get(k);
            return b.looked < bears[b.ward] && purse >= asks(b.kind, lights(k), k);
        }

        boolean would(int k) {
            return !panes.get(k).shown && lights(k) >= 3 && open(k);
        }

        static boolean underOrSame(int kind, int above) {
            Map<Integer, Integer> up = Map.of(1, 0, 2, 0, 4, 0, 3, 2, 5, 4);
            for (Integer k = kind; k != null; k = up.get(k)) {
                if (k == above) {
                    return true;
                }
            }
            return false;
        }

        int will(int k) {
            Body b = panes.get(k);
            for (Rule r : rules) {
                if (underOrSame(b.kind, r.kind) && r.holds.test(new Facts(minute, lights(k), b.looked, fog, k))) {
                    return r.will;
                }
            }
            return 0;
        }

        /** Which PANE is told is asked behind the NEWS; below 0: none. */
        int go(ToIntFunction<World> toldOne) {
            int force = news[minute] / 4;
            int way = news[minute] % 4;
            for (int i = 0; i < force; i++) {
                if (way == 0 && fog < 9 || way == 2 && fog < 5) {
                    fog++;
                } else if (way == 1 && fog > 0 || way == 2 && fog > 5) {
                    fog--;
                }
            }
            int k = toldOne.applyAsInt(this);
            int worth = 0;
            if (k >= 0) {
                Body b = panes.get(k);
                int will = will(k);
                if (will == 2 && rags[b.ward] < 9) {
                    rags[b.ward]++;
                }
                if (will == 0 && open(k)) {
                    int had = lights(k);
                    purse -= asks(b.kind, had, k);
                    b.looked++;
                    b.scene -= Integer.lowestOneBit(b.scene);
                    worth = had;
                    if (had >= 3) {
                        worth += b.shown ? 0 : 5;
                        b.shown = true;
                    }
                }
            }
            for (Body b : panes) {
                b.scene = after(b.kind, b.scene, minute);
            }
            minute++;
            score += worth;
            return worth;
        }

        int goAct(int act) {
            return go(w -> act - 1);
        }

        int goRest() {
            return go(w -> {
                for (int k = 0; k < w.panes.size(); k++) {
                    if (w.would(k)) {
                        return k;
                    }
                }
                return -1;
            });
        }

        int goLot() {
            z = z * 1103515245 + 12345;
            return goAct((z >>> 16) % (panes.size() + 1));
        }

        int rest(int n) {
            int sum = 0;
            for (int i = 0; i < n && !over(); i++) {
                sum += goRest();
            }
            return sum;
        }

        int shownSet() {
            int set = 0;
            for (int k = 0; k < panes.size(); k++) {
                if (panes.get(k).shown) {
                    set |= 1 << k;
                }
            }
            return set;
        }
    }

    World w = new World();
    World kept;
    List<Integer> tape = new ArrayList<>();
    List<int[]> rows = new ArrayList<>();
    Object[] sheets = new Object[4];
    Object[] shelves = new Object[4];
    List<Integer> trace = new ArrayList<>();

    Model() {
        Arrays.fill(w.news, 4);
        Arrays.fill(w.bears, 3);
    }

    boolean in(int v, int least, int most) {
        return least <= v && v <= most;
    }

    boolean is(int k) {
        return in(k, 0, w.panes.size() - 1);
    }

    int pane(int kind, int scene, int ward) {
        if (!in(kind, 1, 5) || !in(scene, 0, 255) || !in(ward, 0, 5)) {
            return BAD;
        }
        if (w.panes.size() == 6) {
            return FULL;
        }
        Body b = new Body();
        b.kind = kind;
        b.scene = scene;
        b.ward = ward;
        w.panes.add(b);
        return w.panes.size() - 1;
    }

    int paneOf(int k, int what) {
        if (!is(k) || !in(what, 0, 9)) {
            return BAD;
        }
        Body b = w.panes.get(k);
        int[] all = {b.kind, b.scene, b.looked, b.ward, b.shown ? 1 : 0, w.lights(k), World.asks(b.kind, w.lights(k), k),
            World.after(b.kind, b.scene, w.minute), w.will(k), w.open(k) ? 1 : 0};
        return all[what];
    }

    int change(int k, int what, int v) {
        int[] most = {-1, 255, 9, 5, 1};
        if (!is(k) || !in(what, 1, 4) || !in(v, 0, most[what])) {
            return BAD;
        }
        int was = paneOf(k, what);
        Body b = w.panes.get(k);
        if (what == 1) {
            b.scene = v;
        } else if (what == 2) {
            b.looked = v;
        } else if (what == 3) {
            b.ward = v;
        } else {
            b.shown = v == 1;
        }
        return was;
    }

    int remake(int k, int kind) {
        if (!is(k) || !in(kind, 1, 5)) {
            return BAD;
        }
        int was = w.panes.get(k).kind;
        w.panes.get(k).kind = kind;
        return was;
    }

    int news(int minute, int v) {
        if (!in(minute, 0, 15) || !in(v, 0, 15)) {
            return BAD;
        }
        int was = w.news[minute];
        w.news[minute] = v;
        return was;
    }

    int ward(int f, int what, int v) {
        if (!in(f, 0, 5) || !in(what, 0, 1) || !in(v, 0, 9)) {
            return BAD;
        }
        int was = wardOf(f, what);
        (what == 0 ? w.rags : w.bears)[f] = v;
        return was;
    }

    int wardOf(int f, int what) {
        return !in(f, 0, 5) || !in(what, 0, 1) ? BAD : what == 0 ? w.rags[f] : w.bears[f];
    }

    int lord(int what, int v) {
        if (!in(what, 0, 1) || !in(v, 0, what == 0 ? 9 : 999)) {
            return BAD;
        }
        int was = state(6 + what);
        if (what == 0) {
            w.fog = v;
        } else {
            w.purse = v;
        }
        return was;
    }

    int ends(int v) {
        if (!in(v, 1, 16)) {
            return BAD;
        }
        if (v < w.minute) {
            return STATE;
        }
        int was = w.end;
        w.end = v;
        return was;
    }

    int anew() {
        int was = w.minute;
        w.minute = 0;
        w.score = 0;
        w.fog = 0;
        w.purse = 60;
        for (Body b : w.panes) {
            b.looked = 0;
            b.shown = false;
        }
        return was;
    }

    int state(int what) {
        if (!in(what, 0, 7)) {
            return BAD;
        }
        int[] all = {w.minute, w.end, w.score, w.over() ? 1 : 0, w.shownSet(), w.minute > 15 ? 0 : w.news[w.minute], w.fog, w.purse};
        return all[what];
    }

    int feed(long eight, int n) {
        if (!in(n, 1, 8)) {
            return BAD;
        }
        if (tape.size() + n > 200) {
            return FULL;
        }
        for (int i = 0; i < n; i++) {
            tape.add((int) (eight & 255));
            eight >>= 8;
        }
        return tape.size();
    }

    // the rules: a descent that throws its FAULT

    static final class Fault extends RuntimeException {
        private static final long serialVersionUID = 1L;
        final int place;

        Fault(int place) {
            this.place = place;
        }
    }

    final class Descent {
        final List<String> words = new ArrayList<>();
        final List<Integer> places = new ArrayList<>();
        int at;

        Descent() {
            StringBuilder text = new StringBuilder();
            for (int b : tape) {
                text.append((char) b);
            }
            java.util.regex.Matcher m = java.util.regex.Pattern.compile("[a-z]+|[0-9]+|[^ ]", java.util.regex.Pattern.DOTALL).matcher(text);
            while (m.find()) {
                words.add(m.group());
                places.add(m.start());
            }
            words.add("");
            places.add(tape.size());
        }

        boolean sees(String... any) {
            return Arrays.asList(any).contains(words.get(at));
        }

        String take(String... any) {
            if (!sees(any)) {
                throw new Fault(places.get(at));
            }
            return words.get(at++);
        }

        List<Rule> text() {
            List<Rule> all = new ArrayList<>();
            while (!sees("")) {
                if (all.size() == 8) {
                    throw new Fault(places.get(at));
                }
                int kind = Arrays.asList(KINDS).indexOf(take(KINDS));
                Predicate<Facts> cond = f -> true;
                if (sees("if")) {
                    take("if");
                    cond = cond(0);
                }
                int will = List.of("look", "pass", "rag").indexOf(take("look", "pass", "rag"));
                take(";");
                all.add(new Rule(kind, cond, will));
            }
            return all;
        }

        Predicate<Facts> cond(int open) {
            Predicate<Facts> p = all(open);
            while (sees("or")) {
                take("or");
                p = p.or(all(open));
            }
            return p;
        }

        Predicate<Facts> all(int open) {
            Predicate<Facts> p = one(open);
            while (sees("and")) {
                take("and");
                p = p.and(one(open));
            }
            return p;
        }

        Predicate<Facts> one(int open) {
            if (sees("not")) {
                take("not");
                return one(open).negate();
            }
            if (sees("(") && open < 3) {
                take("(");
                Predicate<Facts> p = cond(open + 1);
                take(")");
                return p;
            }
            ToIntFunction<Facts> left = value();
            String sign = take("<", "=", ">");
            ToIntFunction<Facts> right = value();
            return f -> {
                int c = Integer.compare(left.applyAsInt(f), right.applyAsInt(f));
                return sign.equals("<") ? c < 0 : sign.equals("=") ? c == 0 : c > 0;
            };
        }

        ToIntFunction<Facts> value() {
            if (words.get(at).matches("[0-9]{1,4}")) {
                int v = Integer.parseInt(words.get(at++));
                return f -> v;
            }
            return switch (take("minute", "lights", "looked", "fog", "number")) {
                case "minute" -> Facts::minute;
                case "lights" -> Facts::lights;
                case "looked" -> Facts::looked;
                case "fog" -> Facts::fog;
                default -> Facts::number;
            };
        }
    }

    int rules() {
        try {
            w.rules = new Descent().text();
            return w.rules.size();
        } catch (Fault f) {
            return -100 - f.place;
        } finally {
            tape.clear();
        }
    }

    int minute() {
        return w.over() ? STATE : w.goRest();
    }

    int on(int n) {
        return in(n, 0, 16) ? w.copy().rest(n) : BAD;
    }

    int when(int k) {
        if (!is(k)) {
            return BAD;
        }
        World t = w.copy();
        while (!t.panes.get(k).shown) {
            if (t.over()) {
                return NONE;
            }
            t.goRest();
            if (t.panes.get(k).shown) {
                return t.minute - 1;
            }
        }
        return NONE;
    }

    int sceneFor(int k) {
        if (!is(k)) {
            return BAD;
        }
        TreeMap<Integer, Integer> least = new TreeMap<>();
        for (int s = 255; s >= 0; s--) {
            World t = w.copy();
            t.panes.get(k).scene = s;
            least.put(t.rest(99), s);
        }
        return least.lastEntry().getValue();
    }

    int wardFor(int k) {
        if (!is(k)) {
            return BAD;
        }
        TreeMap<Integer, Integer> least = new TreeMap<>();
        for (int f = 5; f >= 0; f--) {
            World t = w.copy();
            t.panes.get(k).ward = f;
            least.put(t.rest(99), f);
        }
        return least.lastEntry().getValue();
    }

    int dark(int k) {
        if (!is(k)) {
            return BAD;
        }
        World t = w.copy();
        while (!t.over()) {
            t.goAct(0);
            if (t.panes.get(k).scene == 0) {
                return t.minute - 1;
            }
        }
        return NONE;
    }

    int back(int k) {
        if (!is(k)) {
            return BAD;
        }
        Body b = w.panes.get(k);
        int s = b.scene;
        for (int i = 0; i < 64; i++) {
            s = World.after(b.kind, s, w.minute + i);
            if (s == b.scene) {
                return i + 1;
            }
        }
        return NONE;
    }

    int companies(int what) {
        int n = w.panes.size();
        if (!in(what, -1, n - 1)) {
            return BAD;
        }
        // by the closure of "is close to"
        boolean[][] tied = new boolean[n][n];
        for (int i = 0; i < n; i++) {
            for (int j = 0; j < n; j++) {
                Body a = w.panes.get(i);
                Body b = w.panes.get(j);
                tied[i][j] = !a.shown && !b.shown && (a.ward == b.ward || Integer.bitCount(a.scene ^ b.scene) < 3);
            }
        }
        for (int m = 0; m < n; m++) {
            for (int i = 0; i < n; i++) {
                for (int j = 0; j < n; j++) {
                    tied[i][j] |= tied[i][m] && tied[m][j];
                }
            }
        }
        Set<Integer> sets = new HashSet<>();
        Map<Integer, Integer> of = new HashMap<>();
        for (int i = 0; i < n; i++) {
            int set = 0;
            for (int j = 0; j < n; j++) {
                set |= tied[i][j] ? 1 << j : 0;
            }
            of.put(i, set);
            if (set != 0) {
                sets.add(set);
            }
        }
        return what == -1 ? sets.size() : of.get(what);
    }

    static List<List<Integer>> orders(List<Integer> of) {
        List<List<Integer>> all = new ArrayList<>();
        if (of.isEmpty()) {
            all.add(new ArrayList<>());
        }
        for (Integer head : of) {
            List<Integer> rest = new ArrayList<>(of);
            rest.remove(head);
            for (List<Integer> tail : orders(rest)) {
                tail.add(0, head);
                all.add(tail);
            }
        }
        return all;
    }

    int tour(int scene, int what) {
        if (!in(scene, 0, 255) || !in(what, 0, 1)) {
            return BAD;
        }
        List<Integer> left = new ArrayList<>();
        for (int k = 0; k < w.panes.size(); k++) {
            if (!w.panes.get(k).shown) {
                left.add(k);
            }
        }
        int fewest = 999;
        int first = NONE;
        for (List<Integer> order : orders(left)) {
            int at = scene;
            int changed = 0;
            for (int k : order) {
                changed += Integer.bitCount(at ^ w.panes.get(k).scene);
                at = w.panes.get(k).scene;
            }
            if (changed < fewest) {
                fewest = changed;
                first = order.isEmpty() ? NONE : order.get(0);
            }
        }
        return what == 0 ? fewest : first;
    }

    record Done(int[] plan, int worth, int shown) { }

    /** All PLANS, the one with the lesser ACT where they are unlike first coming first. */
    List<Done> plans(int n) {
        List<Done> all = new ArrayList<>();
        int length = Math.min(n, w.over() ? 0 : w.end - w.minute);
        int base = w.panes.size() + 1;
        int many = (int) Math.round(Math.pow(base, length));
        for (int code = 0; code < many; code++) {
            int[] plan = new int[length];
            for (int i = length - 1, c = code; i >= 0; i--, c /= base) {
                plan[i] = c % base;
            }
            World t = w.copy();
            int worth = 0;
            for (int act : plan) {
                worth += t.goAct(act);
            }
            all.add(new Done(plan, worth, t.shownSet()));
        }
        return all;
    }

    List<Done> bestPlans(int n) {
        List<Done> all = plans(n);
        int most = all.stream().mapToInt(Done::worth).max().getAsInt();
        return all.stream().filter(d -> d.worth == most).toList();
    }

    int best(int n) {
        return in(n, 0, 4) ? bestPlans(n).get(0).worth : BAD;
    }

    int ith(int n, int i) {
        if (!in(n, 0, 4) || !in(i, 0, 3)) {
            return BAD;
        }
        int[] plan = bestPlans(n).get(0).plan;
        return i < plan.length ? plan[i] : NONE;
    }

    int ways(int n) {
        return in(n, 0, 4) ? bestPlans(n).size() : BAD;
    }

    int visit(int n, int panes) {
        if (!in(n, 0, 4) || !in(panes, 0, (1 << w.panes.size()) - 1)) {
            return BAD;
        }
        return plans(n).stream().filter(d -> (d.shown & panes) == panes)
            .mapToInt(d -> (int) Arrays.stream(d.plan).filter(a -> a != 0).count()).min().orElse(NONE);
    }

    int bars(int n, int panes) {
        if (!in(n, 0, 4) || !in(panes, 0, (1 << w.panes.size()) - 1)) {
            return BAD;
        }
        for (int k = 0; k < w.panes.size(); k++) {
            int one = 1 << k;
            if ((panes & one) != 0 && visit(n, one) == NONE) {
                return k;
            }
        }
        return NONE;
    }

    static int value(World from, int n, boolean wantsMost) {
        if (n == 0 || from.over()) {
            return 0;
        }
        List<Integer> all = new ArrayList<>();
        for (int act = 0; act <= from.panes.size(); act++) {
            World t = from.copy();
            int worth = t.goAct(act);
            all.add(worth + value(t, n - 1, !wantsMost));
        }
        return wantsMost ? java.util.Collections.max(all) : java.util.Collections.min(all);
    }

    int game(int n) {
        return in(n, 1, 4) ? value(w, n, true) : BAD;
    }

    int play(int n) {
        if (!in(n, 1, 4)) {
            return BAD;
        }
        if (w.over()) {
            return NONE;
        }
        int due = game(n);
        for (int act = 0;; act++) {
            World t = w.copy();
            int worth = t.goAct(act);
            if (worth + value(t, n - 1, false) == due) {
                return act;
            }
        }
    }

    int report(int k, int asked, int least, int most) {
        int top = asked == 0 ? 8 : 15;
        if (!in(k, 0, 15) || !in(asked, 0, 1) || !in(least, 0, top) || !in(most, 0, top) || most < least) {
            return BAD;
        }
        if (w.reports.size() == 6) {
            return FULL;
        }
        w.reports.add(new Report(k, asked, least, most));
        return w.reports.size() - 1;
    }

    int forget() {
        int was = w.reports.size();
        w.reports.clear();
        return was;
    }

    static boolean fits(List<Report> reports, int kind, int scene) {
        for (Report r : reports) {
            int s = scene;
            for (int m = 0; m < r.k; m++) {
                s = World.after(kind, s, m);
            }
            int seen = r.asked == 0 ? Integer.bitCount(s) : s % 16;
            if (seen < r.least || seen > r.most) {
                return false;
            }
        }
        return true;
    }

    static List<int[]> fitting(List<Report> reports) {
        List<int[]> all = new ArrayList<>();
        for (int kind = 1; kind <= 5; kind++) {
            for (int scene = 0; scene < 256; scene++) {
                if (fits(reports, kind, scene)) {
                    all.add(new int[] {all.size(), kind, scene});
                }
            }
        }
        return all;
    }

    int who(int what) {
        if (!in(what, 0, 2)) {
            return BAD;
        }
        List<int[]> all = fitting(w.reports);
        return what == 0 ? all.size() : all.isEmpty() ? NONE : all.get(0)[what];
    }

    int liar() {
        if (!fitting(w.reports).isEmpty()) {
            return NONE;
        }
        for (int r = 0; r < w.reports.size(); r++) {
            List<Report> others = new ArrayList<>(w.reports);
            others.remove(r);
            if (!fitting(others).isEmpty()) {
                return r;
            }
        }
        return NONE;
    }

    int seed(int v) {
        int was = w.z;
        w.z = v;
        return was;
    }

    int lot() {
        return w.over() ? STATE : w.goLot();
    }

    int times(int n, int v) {
        if (!in(n, 1, 40) || !in(v, 0, 999)) {
            return BAD;
        }
        int z = w.z;
        int count = 0;
        for (int i = 0; i < n; i++) {
            World t = w.copy();
            t.z = z;
            t.score = 0;
            while (!t.over()) {
                t.goLot();
            }
            z = t.z;
            count += t.score >= v ? 1 : 0;
        }
        return count;
    }

    int prove(int n) {
        if (!in(n, 0, 4)) {
            return BAD;
        }
        World t = w.copy();
        List<int[]> made = new ArrayList<>();
        for (int act : bestPlans(n).get(0).plan) {
            made.add(new int[] {act, t.goAct(act), t.shownSet()});
        }
        rows = made;
        return rows.size();
    }

    int row(int k, int what) {
        return in(k, 0, rows.size() - 1) && in(what, 0, 2) ? rows.get(k)[what] : -9;
    }

    int alterRow(int k, int what, int v) {
        int was = row(k, what);
        if (in(k, 0, rows.size() - 1) && in(what, 0, 2)) {
            rows.get(k)[what] = v;
        }
        return was;
    }

    int judge() {
        World t = w.copy();
        for (int i = 0; i < rows.size(); i++) {
            int[] r = rows.get(i);
            if (t.over() || !in(r[0], 0, t.panes.size()) || t.goAct(r[0]) != r[1] || t.shownSet() != r[2]) {
                return i + 1;
            }
        }
        return 0;
    }

    // the host is Java: what it refuses is what the machine throws

    static int refusal(RuntimeException e) {
        if (e instanceof NullPointerException) {
            return -11;
        }
        if (e instanceof IndexOutOfBoundsException) {
            return -12;
        }
        if (e instanceof ClassCastException) {
            return -13;
        }
        if (e instanceof NegativeArraySizeException) {
            return -14;
        }
        if (e instanceof ArithmeticException) {
            return -15;
        }
        throw e;
    }

    int sheet(int sheet, int sort, int n) {
        if (!in(sheet, 0, 3) || !in(sort, -1, 4) || sort != -1 && n > 40) {
            return BAD;
        }
        try {
            sheets[sheet] = switch (sort) {
                case -1 -> null;
                case 0 -> new byte[n];
                case 1 -> new short[n];
                case 2 -> new int[n];
                case 3 -> new long[n];
                default -> new boolean[n];
            };
            return 1;
        } catch (RuntimeException e) {
            return refusal(e);
        }
    }

    int write(int sheet, int i, int v) {
        if (!in(sheet, 0, 3)) {
            return BAD;
        }
        try {
            Object row = sheets[sheet];
            if (row instanceof byte[] r) {
                r[i] = (byte) v;
            } else if (row instanceof short[] r) {
                r[i] = (short) v;
            } else if (row instanceof int[] r) {
                r[i] = v;
            } else if (row instanceof long[] r) {
                r[i] = v;
            } else {
                ((boolean[]) row)[i] = v != 0;
            }
            return 1;
        } catch (RuntimeException e) {
            return refusal(e);
        }
    }

    int item(int sheet, int sort, int i) {
        if (!in(sheet, 0, 3) || !in(sort, 0, 4)) {
            return BAD;
        }
        try {
            return switch (sort) {
                case 0 -> ((byte[]) sheets[sheet])[i];
                case 1 -> ((short[]) sheets[sheet])[i];
                case 2 -> ((int[]) sheets[sheet])[i];
                case 3 -> (int) ((long[]) sheets[sheet])[i];
                default -> ((boolean[]) sheets[sheet])[i] ? 1 : 0;
            };
        } catch (RuntimeException e) {
            return refusal(e);
        }
    }

    int goAll(int sheet, int i, int n) {
        if (!in(sheet, 0, 3) || !in(n, 0, 20)) {
            return BAD;
        }
        try {
            byte[] row = (byte[]) sheets[sheet];
            int sum = 0 * row.length;
            for (int j = 0; j < n; j++) {
                int act = row[i + j];
                if (in(act, 0, w.panes.size()) && !w.over()) {
                    sum += w.goAct(act);
                }
            }
            return sum;
        } catch (RuntimeException e) {
            return refusal(e);
        }
    }

    int wouldBe(int sheet, int i, int n) {
        if (!in(sheet, 0, 3) || !in(n, 0, 20)) {
            return BAD;
        }
        try {
            byte[] row = (byte[]) sheets[sheet];
            int sum = 0 * row.length;
            World t = w.copy();
            for (int j = 0; j < n; j++) {
                int act = row[i + j];
                if (!in(act, 0, t.panes.size()) || t.over()) {
                    return STATE;
                }
                sum += t.goAct(act);
            }
            return sum;
        } catch (RuntimeException e) {
            return refusal(e);
        }
    }

    int shelf(int shelf, int what, int n) {
        if (!in(shelf, 0, 3) || !in(what, 0, 2) || what == 0 && !is(n) || what == 1 && !in(n, 0, 3)) {
            return BAD;
        }
        // an Integer is a PANE's number
        shelves[shelf] = what == 0 ? (Object) Integer.valueOf(n) : what == 1 ? sheets[n] : null;
        return 1;
    }

    Object onShelf(int shelf) {
        Object held = shelves[shelf];
        if (held instanceof Integer k) {
            if (!is(k)) {
                return null;
            }
            Body b = w.panes.get(k);
            Thing t = switch (b.kind) {
                case 1 -> new Navvy();
                case 2 -> new Sewer();
                case 3 -> new Widow();
                case 4 -> new Lad();
                default -> new Dog();
            };
            t.n = k;
            t.a = b.ward;
            return t;
        }
        return held;
    }

    int taken(int shelf, int as) {
        if (!in(shelf, 0, 3) || !in(as, 0, 5) && !in(as, 10, 14)) {
            return BAD;
        }
        Object held = onShelf(shelf);
        try {
            return switch (as) {
                case 0 -> ((Thing) held).n;
                case 1 -> ((Navvy) held).n;
                case 2 -> ((Sewer) held).n;
                case 3 -> ((Widow) held).n;
                case 4 -> ((Lad) held).n;
                case 5 -> ((Dog) held).n;
                case 10 -> ((byte[]) held).length;
                case 11 -> ((short[]) held).length;
                case 12 -> ((int[]) held).length;
                case 13 -> ((long[]) held).length;
                default -> ((boolean[]) held).length;
            };
        } catch (RuntimeException e) {
            return refusal(e);
        }
    }

    class Thing {
        int n, a;

        int glows(int x) {
            trace.add(10);
            return x + 3 * n;
        }

        int smokes(int x) {
            trace.add(11);
            return glows(x) ^ 2 * a;
        }

        int waves(int x) {
            trace.add(12);
            return x % (n - 2 * a + 1);
        }

        int begs(int x) {
            trace.add(13);
            return smokes(x) - waves(x);
        }
    }

    class Navvy extends Thing {
        @Override int glows(int x) {
            trace.add(20);
            return super.glows(x) ^ 21;
        }
    }

    class Sewer extends Thing {
        @Override int smokes(int x) {
            trace.add(30);
            return super.smokes(x - n);
        }
    }

    class Lad extends Thing {
        @Override int waves(int x) {
            trace.add(40);
            return super.waves(x) * 3;
        }
    }

    class Widow extends Sewer {
        @Override int glows(int x) {
            trace.add(50);
            return super.glows(x) - a;
        }

        @Override int begs(int x) {
            trace.add(51);
            return super.begs(x) ^ smokes(2);
        }
    }

    class Dog extends Lad {
        @Override int smokes(int x) {
            trace.add(60);
            return super.smokes(x) + 9;
        }

        @Override int waves(int x) {
            trace.add(61);
            return super.waves(x) - glows(n);
        }
    }

    int act(int shelf, int act, int x) {
        trace.clear();
        if (!in(shelf, 0, 3) || !in(act, 0, 3) || !(onShelf(shelf) instanceof Thing t)) {
            return 0;
        }
        try {
            return switch (act) {
                case 0 -> t.glows(x);
                case 1 -> t.smokes(x);
                case 2 -> t.waves(x);
                default -> t.begs(x);
            };
        } catch (RuntimeException e) {
            return refusal(e);
        }
    }

    int trace(int i) {
        return in(i, 0, Math.min(trace.size(), 30) - 1) ? trace.get(i) : NONE;
    }

    int many(int what) {
        if (!in(what, 0, 6)) {
            return BAD;
        }
        int[] all = {w.panes.size(), w.rules.size(), Integer.bitCount(w.shownSet()), w.reports.size(), rows.size(), tape.size(),
            Math.min(trace.size(), 30)};
        return all[what];
    }

    int keep() {
        kept = w.copy();
        return 1;
    }

    int again() {
        if (kept == null) {
            return NONE;
        }
        w = kept.copy();
        return w.panes.size();
    }
}
