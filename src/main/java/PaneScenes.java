import java.util.Arrays;

/** An evening of looks at panes; the document's promises say what each call answers. */
public final class PaneScenes {
    public static final int BAD = -1, FULL = -2, NONE = -3, STATE = -4;

    private static final int NO_ROW = -9, NOTHING = -11, OUTSIDE = -12, OTHER_SORT = -13, BELOW_ZERO = -14, PARTED = -15;
    private static final int MOST_PANES = 6, WARDS = 6, MOST_MINUTES = 16, MOST_SCENE = 255, MOST_REPORTS = 6;
    private static final int LONGEST_PLAN = 4, ROW_SIZE = 3, REPORT_SIZE = 4;
    private static final int SHEETS = 4, SHEET_SIZE = 40, MOST_ITEMS = 20, SHELVES = 4;
    private static final int MISSING = -1, BYTES = 0, SHORTS = 1, BOOLEANS = 4;
    private static final int HOLDS_NOTHING = 0, HOLDS_PANE = 1, HOLDS_ROW = 2;
    private static final int LOOK = 0, RAG = 2;
    private static final int FIRST_PURSE = 60;
    /** More lights than change on any TOUR, on which each PANE has eight at most. */
    private static final int BEYOND_TOURS = 8 * MOST_PANES + 1;

    /** For each KIND the set of those that are it or above it. */
    private static final int[] LINE = {1, 3, 5, 13, 17, 49};

    private final Evening evening;
    private final Evening kept;
    private final Evening trial;
    private boolean isKept = false;
    private final Tape tape = new Tape();
    private final Rules told = new Rules();
    private final Planner planner;
    private final Stage stage = new Stage();
    private final int[] rows = new int[LONGEST_PLAN * ROW_SIZE];
    private int rowCount = 0;
    private final int[] sheetSorts = new int[SHEETS];
    private final int[] sheetSizes = new int[SHEETS];
    private final int[] sheetItems = new int[SHEETS * SHEET_SIZE];
    private final int[] shelfHolds = new int[SHELVES];
    private final int[] shelfNumbers = new int[SHELVES];
    private final int[] shelfSizes = new int[SHELVES];

    public PaneScenes() {
        Pane[] kinds = {new Pane(), new Navvy(), new Sewer(), new Widow(), new Lad(), new Dog()};
        Rules rules = new Rules();
        evening = new Evening(kinds, rules);
        kept = new Evening(kinds, new Rules());
        trial = new Evening(kinds, rules);
        planner = new Planner(kinds, rules);
        Arrays.fill(sheetSorts, MISSING);
    }

    // ---- the evening, panes

    public int pane(int kind, int scene, int ward) {
        if (!isPaneKind(kind) || !isWithin(scene, MOST_SCENE) || !isWard(ward)) {
            return BAD;
        }
        if (evening.panes >= MOST_PANES) {
            return FULL;
        }
        return evening.add(kind, scene, ward);
    }

    public int paneOf(int k, int what) {
        if (!isPane(k)) {
            return BAD;
        }
        int lights = evening.lights(k);
        switch (what) {
            case 0: return evening.kind[k];
            case 1: return evening.scene[k];
            case 2: return evening.looked[k];
            case 3: return evening.ward[k];
            case 4: return evening.shown >> k & 1;
            case 5: return lights;
            case 6: return evening.thing(k).price(lights, k);
            case 7: return evening.thing(k).next(evening.scene[k], evening.minute);
            case 8: return evening.will(k, lights);
            case 9: return evening.isOpen(k, evening.thing(k).price(lights, k)) ? 1 : 0;
            default: return BAD;
        }
    }

    public int change(int k, int what, int v) {
        if (!isPane(k)) {
            return BAD;
        }
        switch (what) {
            case 1: return put(evening.scene, k, v, MOST_SCENE);
            case 2: return put(evening.looked, k, v, 9);
            case 3: return put(evening.ward, k, v, WARDS - 1);
            case 4: return changeShown(k, v);
            default: return BAD;
        }
    }

    private int changeShown(int k, int v) {
        if (!isWithin(v, 1)) {
            return BAD;
        }
        int was = evening.shown >> k & 1;
        evening.shown = evening.shown & ~(1 << k) | v << k;
        return was;
    }

    public int remake(int k, int kind) {
        if (!isPane(k) || !isPaneKind(kind)) {
            return BAD;
        }
        int was = evening.kind[k];
        evening.kind[k] = kind;
        return was;
    }

    public int news(int minute, int v) {
        return put(evening.news, minute, v, 15);
    }

    public int ward(int f, int what, int v) {
        switch (what) {
            case 0: return put(evening.rags, f, v, 9);
            case 1: return put(evening.bears, f, v, 9);
            default: return BAD;
        }
    }

    public int wardOf(int f, int what) {
        if (!isWard(f)) {
            return BAD;
        }
        switch (what) {
            case 0: return evening.rags[f];
            case 1: return evening.bears[f];
            default: return BAD;
        }
    }

    public int lord(int what, int v) {
        if (what == 0 && isWithin(v, 9)) {
            int was = evening.fog;
            evening.fog = v;
            return was;
        }
        if (what == 1 && isWithin(v, 999)) {
            int was = evening.purse;
            evening.purse = v;
            return was;
        }
        return BAD;
    }

    public int ends(int v) {
        if (v < 1 || v > MOST_MINUTES) {
            return BAD;
        }
        if (v < evening.minute) {
            return STATE;
        }
        int was = evening.end;
        evening.end = v;
        return was;
    }

    public int anew() {
        int was = evening.minute;
        evening.beginAgain();
        return was;
    }

    public int state(int what) {
        switch (what) {
            case 0: return evening.minute;
            case 1: return evening.end;
            case 2: return evening.score;
            case 3: return evening.isOver() ? 1 : 0;
            case 4: return evening.shown;
            case 5: return evening.newsNow();
            case 6: return evening.fog;
            case 7: return evening.purse;
            default: return BAD;
        }
    }

    private boolean isPane(int k) {
        return k >= 0 && k < evening.panes;
    }

    private static boolean isPaneKind(int kind) {
        return kind >= 1 && kind <= 5;
    }

    private static boolean isWard(int f) {
        return f >= 0 && f < WARDS;
    }

    private static boolean isWithin(int v, int most) {
        return v >= 0 && v <= most;
    }

    /** An element becomes v: what it was; BAD, if there is no such one or v is not 0 to most. */
    private static int put(int[] row, int i, int v, int most) {
        if (i < 0 || i >= row.length || !isWithin(v, most)) {
            return BAD;
        }
        int was = row[i];
        row[i] = v;
        return was;
    }

    // ---- the rules

    public int feed(long eight, int n) {
        if (n < 1 || n > 8) {
            return BAD;
        }
        if (tape.count + n > Tape.MOST) {
            return FULL;
        }
        for (int i = 0; i < n; i++) {
            tape.take((byte) (eight >>> 8 * i));
        }
        return tape.count;
    }

    public int rules() {
        int fault = tape.tell(told);
        if (fault >= 0) {
            return -100 - fault;
        }
        // told is a draft: a TEXT with a FAULT leaves THE RULES as they were
        evening.rules.become(told);
        return told.count;
    }

    // ---- minutes

    public int minute() {
        if (evening.isOver()) {
            return STATE;
        }
        return evening.goRest();
    }

    public int on(int n) {
        if (!isWithin(n, MOST_MINUTES)) {
            return BAD;
        }
        trial.become(evening);
        return trial.goRestFor(n);
    }

    public int when(int k) {
        if (!isPane(k)) {
            return BAD;
        }
        if ((evening.shown >> k & 1) == 1) {
            return NONE;
        }
        trial.become(evening);
        for (int m = evening.minute; m < evening.end; m++) {
            trial.goRest();
            if ((trial.shown >> k & 1) == 1) {
                return m;
            }
        }
        return NONE;
    }

    public int sceneFor(int k) {
        return isPane(k) ? bestFor(k, trial.scene, MOST_SCENE) : BAD;
    }

    public int wardFor(int k) {
        return isPane(k) ? bestFor(k, trial.ward, WARDS - 1) : BAD;
    }

    /** The least of 0 to last with which, put in a row of the trial for a PANE, THE REST is WORTH most. */
    private int bestFor(int k, int[] row, int last) {
        int best = 0;
        int most = -1;
        for (int v = 0; v <= last; v++) {
            trial.become(evening);
            row[k] = v;
            int worth = trial.goRestFor(MOST_MINUTES);
            if (worth > most) {
                most = worth;
                best = v;
            }
        }
        return best;
    }

    // ---- dark panes, scenes that come back, companies, tours

    public int dark(int k) {
        if (!isPane(k)) {
            return BAD;
        }
        Pane thing = evening.thing(k);
        int scene = evening.scene[k];
        for (int m = evening.minute; m < evening.end; m++) {
            scene = thing.next(scene, m);
            if (scene == 0) {
                return m;
            }
        }
        return NONE;
    }

    public int back(int k) {
        if (!isPane(k)) {
            return BAD;
        }
        Pane thing = evening.thing(k);
        int scene = evening.scene[k];
        for (int gone = 1; gone <= 64; gone++) {
            scene = thing.next(scene, evening.minute + gone - 1);
            if (scene == evening.scene[k]) {
                return gone;
            }
        }
        return NONE;
    }

    public int companies(int what) {
        if (what == -1) {
            return countCompanies();
        }
        if (!isPane(what)) {
            return BAD;
        }
        return company(what);
    }

    private int countCompanies() {
        int count = 0;
        for (int k = 0; k < evening.panes; k++) {
            int set = company(k);
            // a COMPANY is counted at its least PANE
            if ((set & -set) == 1 << k) {
                count++;
            }
        }
        return count;
    }

    /** The COMPANY of a PANE, as a set; 0, if the PANE is SHOWN. */
    private int company(int k) {
        if ((evening.shown >> k & 1) == 1) {
            return 0;
        }
        int set = 1 << k;
        for (int round = 0; round < evening.panes; round++) {
            for (int other = 0; other < evening.panes; other++) {
                if (hangsOn(other, set)) {
                    set |= 1 << other;
                }
            }
        }
        return set;
    }

    private boolean hangsOn(int other, int set) {
        if ((evening.shown >> other & 1) == 1) {
            return false;
        }
        for (int k = 0; k < evening.panes; k++) {
            if ((set >> k & 1) == 1 && areClose(k, other)) {
                return true;
            }
        }
        return false;
    }

    private boolean areClose(int k, int other) {
        return evening.ward[k] == evening.ward[other] || Integer.bitCount(evening.scene[k] ^ evening.scene[other]) <= 2;
    }

    public int tour(int scene, int what) {
        if (!isWithin(scene, MOST_SCENE) || !isWithin(what, 1)) {
            return BAD;
        }
        int left = ~evening.shown & (1 << evening.panes) - 1;
        int fewest = fewestLights(scene, left);
        if (what == 0) {
            return fewest;
        }
        for (int k = 0; k < evening.panes; k++) {
            if ((left >> k & 1) == 1 && lightsBy(k, scene, left) == fewest) {
                return k;
            }
        }
        return NONE;
    }

    /** The fewest lights that change on the way from a SCENE to those of all PANES left; each level has one less. */
    private int fewestLights(int scene, int left) {
        int fewest = left == 0 ? 0 : BEYOND_TOURS;
        for (int k = 0; k < evening.panes; k++) {
            if ((left >> k & 1) == 1) {
                fewest = Math.min(fewest, lightsBy(k, scene, left));
            }
        }
        return fewest;
    }

    private int lightsBy(int k, int scene, int left) {
        int to = evening.scene[k];
        return Integer.bitCount(scene ^ to) + fewestLights(to, left & ~(1 << k));
    }

    // ---- plans

    public int best(int n) {
        if (!isWithin(n, LONGEST_PLAN)) {
            return BAD;
        }
        planner.search(evening, n, 0);
        return planner.most;
    }

    public int ith(int n, int i) {
        if (!isWithin(n, LONGEST_PLAN) || !isWithin(i, LONGEST_PLAN - 1)) {
            return BAD;
        }
        planner.search(evening, n, 0);
        return i < planner.length ? planner.first[i] : NONE;
    }

    public int ways(int n) {
        if (!isWithin(n, LONGEST_PLAN)) {
            return BAD;
        }
        planner.search(evening, n, 0);
        return planner.count;
    }

    public int visit(int n, int panes) {
        if (!isWithin(n, LONGEST_PLAN) || !isSet(panes)) {
            return BAD;
        }
        planner.search(evening, n, panes);
        return planner.fewest <= LONGEST_PLAN ? planner.fewest : NONE;
    }

    public int bars(int n, int panes) {
        if (!isWithin(n, LONGEST_PLAN) || !isSet(panes)) {
            return BAD;
        }
        planner.search(evening, n, panes);
        int never = panes & ~planner.everShown;
        return never == 0 ? NONE : Integer.numberOfTrailingZeros(never);
    }

    private boolean isSet(int panes) {
        return isWithin(panes, (1 << evening.panes) - 1);
    }

    // ---- a game, strangers, lots

    public int game(int n) {
        if (n < 1 || n > LONGEST_PLAN) {
            return BAD;
        }
        return planner.contest(evening, n);
    }

    public int play(int n) {
        if (n < 1 || n > LONGEST_PLAN) {
            return BAD;
        }
        if (evening.isOver()) {
            return NONE;
        }
        planner.contest(evening, n);
        return planner.first[0];
    }

    public int report(int k, int asked, int least, int most) {
        if (!isWithin(k, 15) || !isWithin(asked, 1)) {
            return BAD;
        }
        if (!isWithin(most, asked == 0 ? 8 : 15) || !isWithin(least, most)) {
            return BAD;
        }
        if (evening.reports >= MOST_REPORTS) {
            return FULL;
        }
        return evening.addReport(k, asked, least, most);
    }

    public int forget() {
        int was = evening.reports;
        evening.reports = 0;
        return was;
    }

    public int who(int what) {
        if (!isWithin(what, 2)) {
            return BAD;
        }
        int last = evening.lastReported();
        int count = 0;
        for (int kind = 1; kind <= 5; kind++) {
            for (int scene = 0; scene <= MOST_SCENE; scene++) {
                if (evening.wrongReports(kind, scene, last) == 0) {
                    if (what != 0) {
                        return what == 1 ? kind : scene;
                    }
                    count++;
                }
            }
        }
        return what == 0 ? count : NONE;
    }

    public int liar() {
        int last = evening.lastReported();
        int lone = 0;
        for (int kind = 1; kind <= 5; kind++) {
            for (int scene = 0; scene <= MOST_SCENE; scene++) {
                int wrong = evening.wrongReports(kind, scene, last);
                if (wrong == 0) {
                    return NONE;
                }
                if ((wrong & wrong - 1) == 0) {
                    lone |= wrong;
                }
            }
        }
        return lone == 0 ? NONE : Integer.numberOfTrailingZeros(lone);
    }

    public int seed(int v) {
        int was = evening.z;
        evening.z = v;
        return was;
    }

    public int lot() {
        if (evening.isOver()) {
            return STATE;
        }
        return evening.goLot();
    }

    public int times(int n, int v) {
        if (n < 1 || n > 40 || !isWithin(v, 999)) {
            return BAD;
        }
        int count = 0;
        int z = evening.z;
        for (int i = 0; i < n; i++) {
            trial.become(evening);
            trial.z = z;
            int worth = 0;
            for (int m = evening.minute; m < evening.end; m++) {
                worth += trial.goLot();
            }
            z = trial.z;
            if (worth >= v) {
                count++;
            }
        }
        return count;
    }

    // ---- rows

    public int prove(int n) {
        if (!isWithin(n, LONGEST_PLAN)) {
            return BAD;
        }
        planner.search(evening, n, 0);
        trial.become(evening);
        rowCount = planner.length;
        for (int k = 0; k < rowCount; k++) {
            int act = planner.first[k];
            rows[k * ROW_SIZE] = act;
            rows[k * ROW_SIZE + 1] = trial.go(act);
            rows[k * ROW_SIZE + 2] = trial.shown;
        }
        return rowCount;
    }

    public int row(int k, int what) {
        return isInRow(k, what) ? rows[k * ROW_SIZE + what] : NO_ROW;
    }

    public int alterRow(int k, int what, int v) {
        if (!isInRow(k, what)) {
            return NO_ROW;
        }
        int was = rows[k * ROW_SIZE + what];
        rows[k * ROW_SIZE + what] = v;
        return was;
    }

    private boolean isInRow(int k, int what) {
        return k >= 0 && k < rowCount && what >= 0 && what < ROW_SIZE;
    }

    public int judge() {
        trial.become(evening);
        for (int k = 0; k < rowCount; k++) {
            int act = rows[k * ROW_SIZE];
            if (trial.isOver() || !trial.isAct(act)) {
                return k + 1;
            }
            int worth = trial.go(act);
            if (worth != rows[k * ROW_SIZE + 1] || trial.shown != rows[k * ROW_SIZE + 2]) {
                return k + 1;
            }
        }
        return 0;
    }

    // ---- the host

    public int sheet(int sheet, int sort, int n) {
        if (!isSheet(sheet) || sort < MISSING || sort > BOOLEANS) {
            return BAD;
        }
        if (sort != MISSING) {
            if (n > SHEET_SIZE) {
                return BAD;
            }
            if (n < 0) {
                return BELOW_ZERO;
            }
        }
        sheetSorts[sheet] = sort;
        sheetSizes[sheet] = sort == MISSING ? 0 : n;
        Arrays.fill(sheetItems, sheet * SHEET_SIZE, (sheet + 1) * SHEET_SIZE, 0);
        return 1;
    }

    public int write(int sheet, int i, int v) {
        if (!isSheet(sheet)) {
            return BAD;
        }
        if (sheetSorts[sheet] == MISSING) {
            return NOTHING;
        }
        if (i < 0 || i >= sheetSizes[sheet]) {
            return OUTSIDE;
        }
        sheetItems[sheet * SHEET_SIZE + i] = narrowed(v, sheetSorts[sheet]);
        return 1;
    }

    /** Longs are held as ints too: only ints are written, and only the lowest 32 bits are read. */
    private static int narrowed(int v, int sort) {
        switch (sort) {
            case BYTES: return (byte) v;
            case SHORTS: return (short) v;
            case BOOLEANS: return v != 0 ? 1 : 0;
            default: return v;
        }
    }

    public int item(int sheet, int sort, int i) {
        if (!isSheet(sheet) || !isWithin(sort, BOOLEANS)) {
            return BAD;
        }
        int refusal = refusalAs(sheet, sort);
        if (refusal < 0) {
            return refusal;
        }
        if (i < 0 || i >= sheetSizes[sheet]) {
            return OUTSIDE;
        }
        return sheetItems[sheet * SHEET_SIZE + i];
    }

    public int goAll(int sheet, int i, int n) {
        int refusal = refusalOfActs(sheet, n);
        if (refusal < 0) {
            return refusal;
        }
        int worth = 0;
        for (int gone = 0; gone < n; gone++) {
            // gone is taken from the size, not added to i, which could wrap
            if (i < 0 || i >= sheetSizes[sheet] - gone) {
                return OUTSIDE;
            }
            int act = sheetItems[sheet * SHEET_SIZE + i + gone];
            if (!evening.isOver() && evening.isAct(act)) {
                worth += evening.go(act);
            }
        }
        return worth;
    }

    public int wouldBe(int sheet, int i, int n) {
        int refusal = refusalOfActs(sheet, n);
        if (refusal < 0) {
            return refusal;
        }
        trial.become(evening);
        int worth = 0;
        for (int gone = 0; gone < n; gone++) {
            if (i < 0 || i >= sheetSizes[sheet] - gone) {
                return OUTSIDE;
            }
            int act = sheetItems[sheet * SHEET_SIZE + i + gone];
            if (trial.isOver() || !trial.isAct(act)) {
                return STATE;
            }
            worth += trial.go(act);
        }
        return worth;
    }

    private int refusalOfActs(int sheet, int n) {
        return isSheet(sheet) && isWithin(n, MOST_ITEMS) ? refusalAs(sheet, BYTES) : BAD;
    }

    private static boolean isSheet(int sheet) {
        return sheet >= 0 && sheet < SHEETS;
    }

    /** Why a SHEET can't be taken for a sort; 0, if it can. */
    private int refusalAs(int sheet, int sort) {
        if (sheetSorts[sheet] == MISSING) {
            return NOTHING;
        }
        return sheetSorts[sheet] == sort ? 0 : OTHER_SORT;
    }

    public int shelf(int shelf, int what, int n) {
        if (!isShelf(shelf)) {
            return BAD;
        }
        switch (what) {
            case 0: return isPane(n) ? hold(shelf, HOLDS_PANE, n, 0) : BAD;
            case 1: return isSheet(n) ? holdSheet(shelf, n) : BAD;
            case 2: return hold(shelf, HOLDS_NOTHING, 0, 0);
            default: return BAD;
        }
    }

    /** A SHELF holds the row that the SHEET is now, so a SHEET that becomes another row later leaves it as it is. */
    private int holdSheet(int shelf, int sheet) {
        if (sheetSorts[sheet] == MISSING) {
            return hold(shelf, HOLDS_NOTHING, 0, 0);
        }
        return hold(shelf, HOLDS_ROW, sheetSorts[sheet], sheetSizes[sheet]);
    }

    private int hold(int shelf, int holds, int number, int size) {
        shelfHolds[shelf] = holds;
        shelfNumbers[shelf] = number;
        shelfSizes[shelf] = size;
        return 1;
    }

    public int taken(int shelf, int as) {
        boolean asThing = isWithin(as, 5);
        if (!isShelf(shelf) || !asThing && !isWithin(as - 10, BOOLEANS)) {
            return BAD;
        }
        if (holdsPane(shelf)) {
            int k = shelfNumbers[shelf];
            return asThing && isOrUnder(evening.kind[k], as) ? k : OTHER_SORT;
        }
        if (shelfHolds[shelf] == HOLDS_ROW) {
            return !asThing && shelfNumbers[shelf] == as - 10 ? shelfSizes[shelf] : OTHER_SORT;
        }
        return NOTHING;
    }

    private static boolean isShelf(int shelf) {
        return shelf >= 0 && shelf < SHELVES;
    }

    /** Whether a SHELF holds a PANE that there is: again() can bring fewer PANES. */
    private boolean holdsPane(int shelf) {
        return shelfHolds[shelf] == HOLDS_PANE && isPane(shelfNumbers[shelf]);
    }

    private static boolean isOrUnder(int kind, int above) {
        return (LINE[kind] >> above & 1) == 1;
    }

    public int act(int shelf, int act, int x) {
        stage.clear();
        if (!isShelf(shelf) || !isWithin(act, 3) || !holdsPane(shelf)) {
            return 0;
        }
        int k = shelfNumbers[shelf];
        stage.number = k;
        stage.ward = evening.ward[k];
        int answer = 0;
        switch (act) {
            case 0:
                answer = evening.thing(k).glows(stage, x);
                break;
            case 1:
                answer = evening.thing(k).smokes(stage, x);
                break;
            case 2:
                answer = evening.thing(k).waves(stage, x);
                break;
            default:
                answer = evening.thing(k).begs(stage, x);
                break;
        }
        return stage.isParted ? PARTED : answer;
    }

    public int trace(int i) {
        return i >= 0 && i < stage.count ? stage.bodies[i] : NONE;
    }

    public int many(int what) {
        switch (what) {
            case 0: return evening.panes;
            case 1: return evening.rules.count;
            case 2: return Integer.bitCount(evening.shown);
            case 3: return evening.reports;
            case 4: return rowCount;
            case 5: return tape.count;
            case 6: return stage.count;
            default: return BAD;
        }
    }

    // ---- kept

    public int keep() {
        kept.become(evening);
        kept.rules.become(evening.rules);
        isKept = true;
        return 1;
    }

    public int again() {
        if (!isKept) {
            return NONE;
        }
        evening.become(kept);
        evening.rules.become(kept.rules);
        return evening.panes;
    }

    /** A thing of KIND pane, and what the KINDS under it do where they tell nothing else; it holds nothing itself. */
    private static class Pane {
        /** The SCENE behind a MINUTE: lights that leave the eight places on one side come in on the other. */
        int next(int scene, int minute) {
            return (scene << 1 | scene >> 7) & MOST_SCENE;
        }

        int price(int lights, int number) {
            return lights;
        }

        int glows(Stage stage, int x) {
            if (!stage.begins(10)) {
                return 0;
            }
            return x + 3 * stage.number;
        }

        int smokes(Stage stage, int x) {
            if (!stage.begins(11)) {
                return 0;
            }
            return glows(stage, x) ^ 2 * stage.ward;
        }

        int waves(Stage stage, int x) {
            if (!stage.begins(12)) {
                return 0;
            }
            int divisor = stage.number - 2 * stage.ward + 1;
            if (divisor == 0) {
                stage.isParted = true;
                return 0;
            }
            return x % divisor;
        }

        int begs(Stage stage, int x) {
            if (!stage.begins(13)) {
                return 0;
            }
            return smokes(stage, x) - waves(stage, x);
        }
    }

    private static final class Navvy extends Pane {
        int next(int scene, int minute) {
            return (scene >> 1 | scene << 7) & MOST_SCENE;
        }

        int price(int lights, int number) {
            return 2 * super.price(lights, number);
        }

        int glows(Stage stage, int x) {
            if (!stage.begins(20)) {
                return 0;
            }
            return super.glows(stage, x) ^ 21;
        }
    }

    private static class Sewer extends Pane {
        int next(int scene, int minute) {
            return scene ^ super.next(scene, minute);
        }

        int price(int lights, int number) {
            return super.price(lights, number) + number;
        }

        int smokes(Stage stage, int x) {
            if (!stage.begins(30)) {
                return 0;
            }
            return super.smokes(stage, x - stage.number);
        }
    }

    private static final class Widow extends Sewer {
        int next(int scene, int minute) {
            int sewn = super.next(scene, minute);
            return minute % 2 == 1 ? MOST_SCENE - sewn : sewn;
        }

        int price(int lights, int number) {
            return 2 * super.price(lights, number);
        }

        int glows(Stage stage, int x) {
            if (!stage.begins(50)) {
                return 0;
            }
            return super.glows(stage, x) - stage.ward;
        }

        int begs(Stage stage, int x) {
            if (!stage.begins(51)) {
                return 0;
            }
            return super.begs(stage, x) ^ smokes(stage, 2);
        }
    }

    private static class Lad extends Pane {
        int next(int scene, int minute) {
            return (scene << 2 | scene >> 6) & MOST_SCENE;
        }

        int price(int lights, int number) {
            int price = super.price(lights, number);
            return price < 3 ? price : 3;
        }

        int waves(Stage stage, int x) {
            if (!stage.begins(40)) {
                return 0;
            }
            return super.waves(stage, x) * 3;
        }
    }

    private static final class Dog extends Lad {
        int next(int scene, int minute) {
            int gone = super.next(scene, minute);
            return minute % 3 == 2 ? gone ^ 15 : gone;
        }

        int price(int lights, int number) {
            return super.price(lights, number) + 1;
        }

        int smokes(Stage stage, int x) {
            if (!stage.begins(60)) {
                return 0;
            }
            return super.smokes(stage, x) + 9;
        }

        int waves(Stage stage, int x) {
            if (!stage.begins(61)) {
                return 0;
            }
            return super.waves(stage, x) - glows(stage, stage.number);
        }
    }

    /** Where a thing acts: its number and WARD, and THE TRACE of the bodies that ran. */
    private static final class Stage {
        private final int[] bodies = new int[30];
        private int count = 0;
        private int number = 0;
        private int ward = 0;
        private boolean isParted = false;

        private void clear() {
            count = 0;
            isParted = false;
        }

        /** Whether a body may run: behind a parting by 0 none does. */
        private boolean begins(int body) {
            if (isParted) {
                return false;
            }
            if (count < bodies.length) {
                bodies[count] = body;
                count++;
            }
            return true;
        }
    }

    /** All that is kept by keep() but THE RULES, which many evenings of one object may share. */
    private static final class Evening {
        private final Pane[] kinds;
        private final Rules rules;
        private int end = 12;
        private int minute = 0;
        private int fog = 0;
        private int purse = FIRST_PURSE;
        private int score = 0;
        private int panes = 0;
        private int shown = 0;
        private int z = 1;
        private int reports = 0;
        private final int[] news = new int[MOST_MINUTES];
        private final int[] rags = new int[WARDS];
        private final int[] bears = new int[WARDS];
        private final int[] kind = new int[MOST_PANES];
        private final int[] scene = new int[MOST_PANES];
        private final int[] ward = new int[MOST_PANES];
        private final int[] looked = new int[MOST_PANES];
        private final int[] reported = new int[MOST_REPORTS * REPORT_SIZE];

        private Evening(Pane[] kinds, Rules rules) {
            this.kinds = kinds;
            this.rules = rules;
            Arrays.fill(news, 4);
            Arrays.fill(bears, 3);
        }

        private void become(Evening from) {
            end = from.end;
            score = from.score;
            panes = from.panes;
            z = from.z;
            reports = from.reports;
            System.arraycopy(from.news, 0, news, 0, MOST_MINUTES);
            System.arraycopy(from.bears, 0, bears, 0, WARDS);
            System.arraycopy(from.kind, 0, kind, 0, MOST_PANES);
            System.arraycopy(from.ward, 0, ward, 0, MOST_PANES);
            System.arraycopy(from.reported, 0, reported, 0, MOST_REPORTS * REPORT_SIZE);
            moveTo(from);
        }

        /** Only what MINUTES change, for evenings that are alike in the rest. */
        private void moveTo(Evening from) {
            minute = from.minute;
            fog = from.fog;
            purse = from.purse;
            shown = from.shown;
            System.arraycopy(from.rags, 0, rags, 0, WARDS);
            System.arraycopy(from.scene, 0, scene, 0, MOST_PANES);
            System.arraycopy(from.looked, 0, looked, 0, MOST_PANES);
        }

        private void beginAgain() {
            minute = 0;
            score = 0;
            fog = 0;
            purse = FIRST_PURSE;
            shown = 0;
            Arrays.fill(looked, 0);
        }

        private int add(int itsKind, int itsScene, int itsWard) {
            int k = panes;
            kind[k] = itsKind;
            scene[k] = itsScene;
            ward[k] = itsWard;
            looked[k] = 0;
            shown &= ~(1 << k);
            panes++;
            return k;
        }

        private int addReport(int behind, int asked, int least, int most) {
            int at = reports * REPORT_SIZE;
            reported[at] = behind;
            reported[at + 1] = asked;
            reported[at + 2] = least;
            reported[at + 3] = most;
            reports++;
            return reports - 1;
        }

        private boolean isOver() {
            return minute >= end;
        }

        private boolean isAct(int act) {
            return act >= 0 && act <= panes;
        }

        private int newsNow() {
            return minute < MOST_MINUTES ? news[minute] : 0;
        }

        private Pane thing(int k) {
            return kinds[kind[k]];
        }

        private int lights(int k) {
            return Math.max(Integer.bitCount(scene[k]) - rags[ward[k]] - fog / 3, 0);
        }

        private boolean isOpen(int k, int price) {
            return looked[k] < bears[ward[k]] && purse >= price;
        }

        private boolean wouldShow(int k) {
            if ((shown >> k & 1) == 1) {
                return false;
            }
            int lights = lights(k);
            return lights >= 3 && isOpen(k, thing(k).price(lights, k));
        }

        private int will(int k, int lights) {
            if (rules.count == 0) {
                return LOOK;
            }
            int[] facts = rules.facts;
            facts[0] = minute;
            facts[1] = lights;
            facts[2] = looked[k];
            facts[3] = fog;
            facts[4] = k;
            return rules.tells(kind[k]);
        }

        /** A MINUTE with an ACT goes by: what it was WORTH. */
        private int go(int act) {
            bringNews();
            int worth = act == 0 ? 0 : doBy(act - 1);
            goOn(worth);
            return worth;
        }

        /** A MINUTE of THE REST goes by: what it was WORTH. */
        private int goRest() {
            bringNews();
            int worth = 0;
            for (int k = 0; k < panes; k++) {
                if (wouldShow(k)) {
                    worth = doBy(k);
                    break;
                }
            }
            goOn(worth);
            return worth;
        }

        /** So many MINUTES of THE REST, or till it is OVER. */
        private int goRestFor(int n) {
            int worth = 0;
            for (int gone = 0; gone < n && !isOver(); gone++) {
                worth += goRest();
            }
            return worth;
        }

        private int goLot() {
            z = z * 1103515245 + 12345;
            return go((z >>> 16) % (panes + 1));
        }

        private void bringNews() {
            int force = newsNow() / 4;
            switch (newsNow() % 4) {
                case 0:
                    fog = Math.min(fog + force, 9);
                    break;
                case 1:
                    fog = Math.max(fog - force, 0);
                    break;
                case 2:
                    fog = fog < 5 ? Math.min(fog + force, 5) : Math.max(fog - force, 5);
                    break;
                default:
                    break;
            }
        }

        /** What is done by a PANE that is told: what it is WORTH. */
        private int doBy(int k) {
            if (k < 0 || k >= panes) {
                return 0;
            }
            int lights = lights(k);
            int price = thing(k).price(lights, k);
            int will = will(k, lights);
            if (will == RAG) {
                rags[ward[k]] = Math.min(rags[ward[k]] + 1, 9);
            }
            if (will != LOOK || !isOpen(k, price)) {
                return 0;
            }
            purse -= price;
            looked[k]++;
            scene[k] &= scene[k] - 1;
            if (lights < 3 || (shown >> k & 1) == 1) {
                return lights;
            }
            shown |= 1 << k;
            return lights + 5;
        }

        private void goOn(int worth) {
            for (int k = 0; k < panes; k++) {
                scene[k] = thing(k).next(scene[k], minute);
            }
            minute++;
            score += worth;
        }

        /** The latest k of a REPORT; -1, if there are none. */
        private int lastReported() {
            int last = -1;
            for (int r = 0; r < reports; r++) {
                last = Math.max(last, reported[r * REPORT_SIZE]);
            }
            return last;
        }

        /** The REPORTS that aren't so of a STRANGER, as a set; two tell as much as all, so it ends with these. */
        private int wrongReports(int itsKind, int itsScene, int last) {
            Pane stranger = kinds[itsKind];
            int now = itsScene;
            int wrong = 0;
            for (int m = 0; m <= last && (wrong & wrong - 1) == 0; m++) {
                for (int r = 0; r < reports; r++) {
                    if (reported[r * REPORT_SIZE] == m && !isSo(r, now)) {
                        wrong |= 1 << r;
                    }
                }
                now = stranger.next(now, m);
            }
            return wrong;
        }

        private boolean isSo(int r, int now) {
            int at = r * REPORT_SIZE;
            int seen = reported[at + 1] == 0 ? Integer.bitCount(now) : now % 16;
            return seen >= reported[at + 2] && seen <= reported[at + 3];
        }
    }

    /** THE RULES; their conditions stand one behind the other in code: a sign and its two values (facts below 0), or a word behind what it joins. */
    private static final class Rules {
        private static final int MOST = 8, FACTS = 5;
        private static final int LESS = 0, SAME = 1, MORE = 2, NOT = 3, AND = 4, OR = 5;

        private int count = 0;
        private int length = 0;
        private final int[] kinds = new int[MOST];
        private final int[] wills = new int[MOST];
        private final int[] ends = new int[MOST];
        /** A byte of THE TAPE gives one number of code at most. */
        private final int[] code = new int[Tape.MOST];
        private final int[] facts = new int[FACTS];

        private void clear() {
            count = 0;
            length = 0;
        }

        private void become(Rules from) {
            count = from.count;
            length = from.length;
            System.arraycopy(from.kinds, 0, kinds, 0, MOST);
            System.arraycopy(from.wills, 0, wills, 0, MOST);
            System.arraycopy(from.ends, 0, ends, 0, MOST);
            System.arraycopy(from.code, 0, code, 0, Tape.MOST);
        }

        private void add(int kind, int will) {
            if (count < MOST) {
                kinds[count] = kind;
                wills[count] = will;
                ends[count] = length;
                count++;
            }
        }

        private void emit(int number) {
            if (length < code.length) {
                code[length] = number;
                length++;
            }
        }

        /** The WILL for a KIND, by the facts. */
        private int tells(int kind) {
            int from = 0;
            for (int r = 0; r < count; r++) {
                if (isOrUnder(kind, kinds[r]) && holds(from, ends[r])) {
                    return wills[r];
                }
                from = ends[r];
            }
            return LOOK;
        }

        /** Whether a condition holds (none does); the truths that wait are bits, the latest lowest. */
        private boolean holds(int from, int to) {
            int truths = from == to ? 1 : 0;
            for (int i = from; i < to; i++) {
                int op = code[i];
                if (op <= MORE && i + 2 < to) {
                    int left = code[i + 1] < 0 ? facts[FACTS + code[i + 1]] : code[i + 1];
                    int right = code[i + 2] < 0 ? facts[FACTS + code[i + 2]] : code[i + 2];
                    boolean isSo = op == LESS ? left < right : op == SAME ? left == right : left > right;
                    truths = truths << 1 | (isSo ? 1 : 0);
                    i += 2;
                } else if (op == NOT) {
                    truths ^= 1;
                } else if (op == AND) {
                    truths = truths >> 1 & (truths | ~1);
                } else {
                    truths = truths >> 1 | truths & 1;
                }
            }
            return (truths & 1) == 1;
        }
    }

    /** THE TAPE, and how its TEXT becomes THE RULES. */
    private static final class Tape {
        private static final int MOST = 200;
        private static final String WORDS =
            "pane navvy sewer widow lad dog look pass rag if or and not minute lights looked fog number ";
        /** Tokens: the place of a NAME among WORDS, a sign's byte, OTHER or END; facts stand just below NUMBERS. */
        private static final int DOG = 5, DO_LOOK = 6, DO_RAG = 8, IF = 9, OR = 10, AND = 11, NOT = 12, FACT = 13;
        private static final int OTHER = 300, END = 301, NUMBER = 1000, LAST_NUMBER = NUMBER + 9999;
        private static final int FIRST_FACT = NUMBER - Rules.FACTS;
        private static final int MOST_OPEN = 3, MOST_DIGITS = 4;

        private int count = 0;
        private final byte[] bytes = new byte[MOST];
        private final int[] tokens = new int[MOST + 1];
        private final int[] places = new int[MOST + 1];
        private int at = 0;
        private boolean isFaulty = false;

        private void take(byte b) {
            if (count < MOST) {
                bytes[count] = b;
                count++;
            }
        }

        /** Uses THE TAPE up for rules: its FAULT, or -1. */
        private int tell(Rules rules) {
            part();
            count = 0;
            at = 0;
            isFaulty = false;
            rules.clear();
            for (int r = 0; r <= Rules.MOST && !isFaulty && tokens[at] != END; r++) {
                readRule(rules);
            }
            return isFaulty ? places[at] : -1;
        }

        /** Parts the bytes into tokens, END being the last. */
        private void part() {
            int made = 0;
            int place = 0;
            for (int turn = 0; turn < MOST && place < count; turn++) {
                int next = rowEnd(place);
                if (bytes[place] != ' ') {
                    tokens[made] = token(place, next);
                    places[made] = place;
                    made++;
                }
                place = next;
            }
            tokens[made] = END;
            places[made] = count;
        }

        /** Where the NAME or NUMBER at a place ends; one further for another byte. */
        private int rowEnd(int place) {
            int end = place + 1;
            if (isLetter(bytes[place])) {
                while (end < count && isLetter(bytes[end])) {
                    end++;
                }
            } else if (isDigit(bytes[place])) {
                while (end < count && isDigit(bytes[end])) {
                    end++;
                }
            }
            return end;
        }

        private int token(int from, int to) {
            if (isLetter(bytes[from])) {
                return word(from, to);
            }
            if (isDigit(bytes[from])) {
                return to - from <= MOST_DIGITS ? NUMBER + number(from, to) : OTHER;
            }
            switch (bytes[from]) {
                case '(':
                case ')':
                case ';':
                case '<':
                case '=':
                case '>':
                    return bytes[from];
                default:
                    return OTHER;
            }
        }

        private int number(int from, int to) {
            int number = 0;
            for (int i = from; i < to; i++) {
                number = number * 10 + bytes[i] - '0';
            }
            return number;
        }

        /** The token of a NAME; OTHER, if it is none of WORDS. */
        private int word(int from, int to) {
            int word = 0;
            int start = 0;
            for (int i = 0; i < WORDS.length(); i++) {
                if (WORDS.charAt(i) == ' ') {
                    if (i - start == to - from && isWordAt(start, from, to)) {
                        return word < FACT ? word : FIRST_FACT + word - FACT;
                    }
                    word++;
                    start = i + 1;
                }
            }
            return OTHER;
        }

        private boolean isWordAt(int start, int from, int to) {
            for (int i = from; i < to; i++) {
                if (bytes[i] != WORDS.charAt(start + i - from)) {
                    return false;
                }
            }
            return true;
        }

        private static boolean isLetter(byte b) {
            return b >= 'a' && b <= 'z';
        }

        private static boolean isDigit(byte b) {
            return b >= '0' && b <= '9';
        }

        /** Goes beyond the token that comes, if it is one of from to to: that token; else it is the FAULT. */
        private int expect(int from, int to) {
            if (isFaulty || tokens[at] < from || tokens[at] > to) {
                isFaulty = true;
                return from;
            }
            int token = tokens[at];
            at++;
            return token;
        }

        /** Goes beyond the token that comes, if it is this one. */
        private boolean passes(int token) {
            if (isFaulty || tokens[at] != token) {
                return false;
            }
            at++;
            return true;
        }

        private void readRule(Rules rules) {
            if (rules.count == Rules.MOST) {
                isFaulty = true;
                return;
            }
            int kind = expect(0, DOG);
            if (passes(IF)) {
                readCondition(rules, 0);
            }
            int will = expect(DO_LOOK, DO_RAG) - DO_LOOK;
            expect(';', ';');
            rules.add(kind, will);
        }

        /** open: how many "(" stand open around it, which keeps the depth low. */
        private void readCondition(Rules rules, int open) {
            readAll(rules, open);
            for (int turn = 0; turn < MOST && passes(OR); turn++) {
                readAll(rules, open);
                rules.emit(Rules.OR);
            }
        }

        private void readAll(Rules rules, int open) {
            readOne(rules, open);
            for (int turn = 0; turn < MOST && passes(AND); turn++) {
                readOne(rules, open);
                rules.emit(Rules.AND);
            }
        }

        private void readOne(Rules rules, int open) {
            boolean isOther = false;
            for (int turn = 0; turn < MOST && passes(NOT); turn++) {
                isOther = !isOther;
            }
            if (open < MOST_OPEN && passes('(')) {
                readCondition(rules, open + 1);
                expect(')', ')');
            } else {
                readComparison(rules);
            }
            if (isOther) {
                rules.emit(Rules.NOT);
            }
        }

        private void readComparison(Rules rules) {
            int left = expect(FIRST_FACT, LAST_NUMBER) - NUMBER;
            int sign = expect('<', '>') - '<';
            int right = expect(FIRST_FACT, LAST_NUMBER) - NUMBER;
            rules.emit(sign);
            rules.emit(left);
            rules.emit(right);
        }
    }

    /** Goes through all PLANS, or all plays of a GAME, on one evening for each MINUTE of depth. */
    private static final class Planner {
        private final Evening[] levels = new Evening[LONGEST_PLAN + 1];
        private final int[] plan = new int[LONGEST_PLAN];
        private final int[] first = new int[LONGEST_PLAN];
        private int length = 0;
        private int most = 0;
        private int count = 0;
        private int wanted = 0;
        private int fewest = 0;
        private int everShown = 0;

        private Planner(Pane[] kinds, Rules rules) {
            for (int i = 0; i < levels.length; i++) {
                levels[i] = new Evening(kinds, rules);
            }
        }

        private void begin(Evening from, int n) {
            length = Math.max(Math.min(n, from.end - from.minute), 0);
            for (int i = 0; i <= length; i++) {
                levels[i].become(from);
            }
        }

        private void search(Evening from, int n, int panes) {
            begin(from, n);
            wanted = panes;
            count = 0;
            most = 0;
            fewest = LONGEST_PLAN + 1;
            everShown = 0;
            explore(0, 0, 0);
        }

        private void explore(int depth, int worth, int told) {
            Evening here = levels[depth];
            if (depth >= length) {
                note(here.shown, worth, told);
                return;
            }
            Evening next = levels[depth + 1];
            for (int act = 0; act <= here.panes; act++) {
                next.moveTo(here);
                plan[depth] = act;
                explore(depth + 1, worth + next.go(act), act == 0 ? told : told + 1);
            }
        }

        private void note(int shown, int worth, int told) {
            everShown |= shown;
            if ((shown & wanted) == wanted) {
                fewest = Math.min(fewest, told);
            }
            if (count == 0 || worth > most) {
                most = worth;
                count = 1;
                System.arraycopy(plan, 0, first, 0, length);
            } else if (worth == most) {
                count++;
            }
        }

        /** The VALUE of a GAME; first[0] is then the least ACT that comes to it. */
        private int contest(Evening from, int n) {
            begin(from, n);
            return value(0);
        }

        private int value(int depth) {
            if (depth >= length) {
                return 0;
            }
            Evening here = levels[depth];
            Evening next = levels[depth + 1];
            int value = 0;
            for (int act = 0; act <= here.panes; act++) {
                next.moveTo(here);
                int worth = next.go(act) + value(depth + 1);
                boolean isBetter = depth % 2 == 0 ? worth > value : worth < value;
                if (act == 0 || isBetter) {
                    value = worth;
                    first[depth] = act;
                }
            }
            return value;
        }
    }
}
