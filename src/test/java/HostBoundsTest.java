/** Boundary cases of the host (SHEETS, SHELVES, acts) and of what is kept: Terms 3, promises 42 to 53. */
public final class HostBoundsTest extends Bounds {
    /** A navvy, a sewer, a widow, a lad, a dog and a navvy who is parted by 0 when he waves. */
    private static final String[] THINGS = {"pane(1, 0, 2) = 0", "pane(2, 0, 3) = 1", "pane(3, 0, 1) = 2", "pane(4, 0, 0) = 3", "pane(5, 0, 4) = 4", "pane(1, 0, 3) = 5"};
    /** Two lads; a SHEET 0 of bytes: 0, 1, 2, what is no ACT above and below, 2, 1. */
    private static final String[] ACTS = {"pane(4, 255, 0) = 0", "pane(4, 15, 1) = 1", "sheet(0, 0, 7) = 1", "write(0, 1, 1) = 1", "write(0, 2, 2) = 1", "write(0, 3, 3) = 1",
        "write(0, 4, -1) = 1", "write(0, 5, 2) = 1", "write(0, 6, 1) = 1"};

    public static void main(String[] args) throws Exception {
        holdAll(HostBoundsTest.class);
    }

    /** An act of PANE k of THINGS on a SHELF: its answer, and THE TRACE. */
    private void acts(int k, int act, String x, String answer, int... bodies) {
        Run run = new Run(with(THINGS, "shelf(0, 0, " + k + ") = 1", "act(0, " + act + ", " + x + ") = " + answer, "many(6) ? " + bodies.length));
        for (int i = 0; i < bodies.length; i++) {
            run.go("trace(" + i + ") = " + bodies[i]);
        }
        take(run.go("trace(" + bodies.length + ") ! -3", "trace(-1) ! -3"));
    }

    // ---- Terms: what the host refuses

    @Remark("Terms: -11 nothing where something is asked, -12 a place outside, -13 a thing of another sort or kind, -14 a size below 0, -15 parted by 0.")
    void refusalsOfTheHost() {
        inHouse("item(2, 0, 0) ! -11", "taken(2, 0) ! -11", "item(0, 0, 5) ! -12", "item(1, 1, 0) ! -13", "taken(0, 3) ! -13", "sheet(0, 0, -1) ! -14");
        acts(5, 2, "9", "-15", 12);
    }

    // ---- Terms 3: acts

    @Remark("Terms 3: ACTS of a thing by its KIND, with a number x (ints that wrap): 0 glows, 1 smokes, 2 waves, 3 begs.")
    void actsWrap() {
        acts(1, 0, "MAX", "-2147483646", 10);
        acts(1, 0, "2147483644", "MAX", 10);
        acts(1, 1, "MIN", "-2147483644", 30, 11, 10);
        acts(4, 1, "2147483635", "MIN", 60, 11, 10);
        acts(4, 3, "2147483635", "-2147483635", 13, 60, 11, 10, 61, 40, 12, 10);
        acts(0, 0, "MIN", "-2147483627", 20, 10);
    }

    @Remark("Terms 3: A PANE is held as a thing of its KIND; n: its number, a: its WARD.")
    void thingsAsTheyAreNow() {
        // remade and moved while it is on the SHELF: glows by n alone, smokes by a, too
        run(with(THINGS, "shelf(0, 0, 1) = 1", "act(0, 0, 5) = 8", "remake(1, 1) = 2", "act(0, 0, 5) = 29", "trace(0) ? 20", "act(0, 1, 5) = 27", "change(1, 3, 0) = 3",
            "act(0, 1, 5) = 29", "change(1, 3, 5) = 0", "act(0, 1, 5) = 23"));
        // the first and the last number
        run(with(THINGS, "remake(5, 2) = 1", "shelf(0, 0, 5) = 1", "act(0, 0, 5) = 20", "remake(0, 2) = 1", "shelf(0, 0, 0) = 1", "act(0, 0, 5) = 5"));
    }

    @Remark("Terms 3: pane: 10 glows: x + 3 * n. 11 smokes: glows(x) ^ 2 * a.")
    void paneGlowsAndSmokes() {
        // a sewer's glow, a lad's smoke in WARD 0, a navvy's in WARD 2
        acts(1, 0, "5", "8", 10);
        acts(1, 0, "-3", "0", 10);
        acts(3, 1, "5", "14", 11, 10);
        acts(0, 1, "10", "27", 11, 20, 10);
    }

    @Remark("Terms 3: 12 waves: what x leaves by (n - 2 * a + 1), below 0 if x is")
    void wavesBelowZero() {
        // by -3: 1, 0 and -1, whatever its sign; by 1 nothing is left; by -1 nothing, of the lowest int, too
        acts(0, 2, "10", "1", 12);
        acts(0, 2, "9", "0", 12);
        acts(0, 2, "-10", "-1", 12);
        acts(0, 2, "2", "2", 12);
        acts(0, 2, "3", "0", 12);
        acts(0, 2, "MIN", "-2", 12);
        acts(2, 2, "MAX", "0", 12);
        run("pane(1, 0, 1) = 0", "shelf(0, 0, 0) = 1", "act(0, 2, MIN) = 0", "act(0, 2, 7) = 0");
        acts(3, 2, "-7", "-9", 40, 12);
    }

    @Remark("Terms 3: (-15 if that is 0; that is all that act() answers then).")
    void partedByZero() {
        // PANE 5 in WARD 3, by 0; in WARDS 2 and 4 by 2 and -2
        acts(5, 2, "1", "-15", 12);
        acts(5, 2, "0", "-15", 12);
        acts(5, 3, "1", "-15", 13, 11, 20, 10, 12);
        acts(5, 0, "1", "5", 20, 10);
        acts(5, 1, "1", "3", 11, 20, 10);
        run(with(THINGS, "shelf(0, 0, 5) = 1", "change(5, 3, 2) = 3", "act(0, 2, 7) = 1", "change(5, 3, 4) = 2", "act(0, 2, -7) = -1", "change(5, 3, 3) = 4", "act(0, 2, 7) = -15"));
        // what comes behind it doesn't run: a dog's glow, a widow's second smoke
        run(with(THINGS, "shelf(0, 0, 5) = 1", "remake(5, 5) = 1", "act(0, 2, 1) = -15", "many(6) ? 3", "trace(0) ? 61", "trace(1) ? 40", "trace(2) ? 12", "remake(5, 3) = 5",
            "act(0, 3, 1) = -15", "many(6) ? 7", "trace(0) ? 51", "trace(6) ? 12", "act(0, 0, 1) = 13", "many(6) ? 2"));
        // PANES 1 and 3 are parted by 0 in WARDS 1 and 2
        run(with(THINGS, "shelf(0, 0, 1) = 1", "change(1, 3, 1) = 3", "act(0, 2, 9) = -15", "shelf(0, 0, 3) = 1", "change(3, 3, 2) = 0", "act(0, 2, 9) = -15"));
    }

    @Remark("Terms 3: 13 begs: smokes(x) - waves(x).")
    void begsLeftFirst() {
        acts(0, 3, "10", "26", 13, 11, 20, 10, 12);
        acts(1, 3, "5", "0", 13, 30, 11, 10, 12);
        acts(3, 3, "7", "7", 13, 11, 10, 40, 12);
    }

    @Remark("Terms 3: navvy: 20 glows: super.glows(x) ^ 21. sewer: 30 smokes: super.smokes(x - n). lad: 40 waves: super.waves(x) * 3.")
    void bodiesOverPane() {
        acts(0, 0, "10", "31", 20, 10);
        acts(1, 1, "5", "1", 30, 11, 10);
        acts(3, 2, "7", "9", 40, 12);
    }

    @Remark("Terms 3: widow: 50 glows: super.glows(x) - a. 51 begs: super.begs(x) ^ smokes(2).")
    void bodiesOfAWidow() {
        acts(2, 0, "5", "10", 50, 10);
        acts(2, 1, "5", "10", 30, 11, 50, 10);
        acts(2, 2, "5", "0", 12);
        acts(2, 3, "5", "13", 51, 13, 30, 11, 50, 10, 12, 30, 11, 50, 10);
    }

    @Remark("Terms 3: dog: 60 smokes: super.smokes(x) + 9. 61 waves: super.waves(x) - glows(n).")
    void bodiesOfADog() {
        acts(4, 0, "7", "19", 10);
        acts(4, 1, "7", "36", 60, 11, 10);
        acts(4, 2, "7", "-13", 61, 40, 12, 10);
        acts(4, 3, "7", "49", 13, 60, 11, 10, 61, 40, 12, 10);
    }

    @Remark("Terms 3: THE TRACE: numbers of the bodies that ran in the latest act(), as they began (left first); the first 30 are kept.")
    void traceOfTheLatest() {
        // eleven, the most that any act comes to, then two, then none
        run(with(THINGS, "many(6) ? 0", "trace(0) ! -3", "shelf(0, 0, 2) = 1", "act(0, 3, 5) = 13", "many(6) ? 11", "trace(10) ? 10", "trace(11) ! -3", "act(0, 0, 5) = 10",
            "many(6) ? 2", "trace(0) ? 50", "trace(1) ? 10", "trace(2) ! -3", "act(3, 0, 5) = 0", "many(6) ? 0", "trace(0) ! -3"));
    }

    @Remark("Terms 3: SHEETS 0 to 3 are rows of bytes (sort 0), shorts (1), ints (2), longs (3) or booleans (4), 40 at most, or missing (at first).")
    void sheetsAtFirstAndFull() {
        for (int sheet = 0; sheet <= 3; sheet++) {
            Run run = new Run("write(" + sheet + ", 0, 1) ! -11");
            for (int sort = 0; sort <= 4; sort++) {
                run.go("item(" + sheet + ", " + sort + ", 0) ! -11", "sheet(" + sheet + ", " + sort + ", 40) = 1", "item(" + sheet + ", " + sort + ", 39) = 0",
                    "item(" + sheet + ", " + sort + ", 40) = -12", "sheet(" + sheet + ", " + sort + ", 41) = -1", "item(" + sheet + ", " + sort + ", 39) = 0",
                    "sheet(" + sheet + ", -1, 0) = 1");
            }
            take(run);
        }
        run("sheet(-1, 0, 1) ! -1", "sheet(4, 0, 1) ! -1", "item(-1, 0, 0) ! -1", "item(4, 0, 0) ! -1");
    }

    @Remark("Terms 3: SHELVES 0 to 3 hold a PANE (by its number; nothing, if there is no such one at the time), a SHEET's row, or nothing (at first).")
    void shelvesHold() {
        for (int shelf = 0; shelf <= 3; shelf++) {
            run("taken(" + shelf + ", 0) ! -11", "taken(" + shelf + ", 10) ! -11", "act(" + shelf + ", 0, 1) = 0", "pane(1, 0, 0) = 0", "shelf(" + shelf + ", 0, 0) = 1",
                "taken(" + shelf + ", 1) ? 0");
        }
        run("taken(-1, 0) ! -1", "taken(4, 0) ! -1");
        // fewer PANES again: nothing; as many again: the one of that number, of another KIND
        run("pane(1, 0, 0) = 0", "keep() = 1", "pane(2, 0, 0) = 1", "shelf(0, 0, 1) = 1", "shelf(1, 0, 0) = 1", "taken(0, 2) ? 1", "again() = 1", "taken(0, 2) ! -11", "taken(0, 10) ! -11",
            "act(0, 0, 5) = 0", "many(6) ? 0", "taken(1, 1) ? 0", "pane(4, 0, 0) = 1", "taken(0, 2) ! -13", "taken(0, 4) ? 1", "act(0, 0, 5) = 8");
        // the row that a SHEET was then, though the SHEET becomes another or is missing
        run("sheet(2, 1, 40) = 1", "shelf(3, 1, 2) = 1", "taken(3, 11) ? 40", "sheet(2, 0, 3) = 1", "taken(3, 11) ? 40", "taken(3, 10) ! -13", "sheet(2, -1, 0) = 1", "taken(3, 11) ? 40",
            "shelf(3, 1, 2) = 1", "taken(3, 11) ! -11");
    }

    // ---- Promises 42 to 44

    @Remark("Promise 42: A SHEET becomes a row of n of a sort, all 0, or missing (sort -1; n counts nothing then): 1.")
    void sheetBecomes() {
        run("sheet(0, 0, 0) = 1", "item(0, 0, 0) ! -12", "sheet(0, 2, 40) = 1", "write(0, 0, 7) = 1", "write(0, 39, 7) = 1", "sheet(0, 2, 40) = 1", "item(0, 2, 0) ? 0", "item(0, 2, 39) ? 0",
            "item(0, 2, 40) ! -12", "write(0, 3, 7) = 1", "sheet(0, 3, 4) = 1", "item(0, 3, 3) ? 0", "item(0, 3, 4) ! -12");
        run("sheet(3, 4, 1) = 1", "item(3, 4, 0) ? 0", "sheet(3, -1, 0) = 1", "item(3, 4, 0) ! -11", "sheet(3, -1, -1) = 1", "sheet(3, -1, 41) = 1", "sheet(3, -1, MIN) = 1",
            "sheet(3, -1, MAX) = 1", "item(3, 4, 0) ! -11");
        // the others stay
        run("sheet(0, 0, 40) = 1", "write(0, 39, 5) = 1", "sheet(2, 0, 40) = 1", "write(2, 0, 6) = 1", "sheet(1, 0, 40) = 1", "item(0, 0, 39) ? 5", "item(2, 0, 0) ? 6", "item(1, 0, 0) ? 0");
    }

    @Remark("Promise 42: BAD: no such SHEET, sort, n above 40; -14.")
    void sheetBounds() {
        inHouse("sheet(-1, 0, 1) ! -1", "sheet(4, 0, 1) ! -1", "sheet(0, -2, 1) ! -1", "sheet(0, 5, 1) ! -1", "sheet(0, 0, 41) ! -1", "sheet(0, 0, -1) ! -14", "sheet(0, 4, MIN) ! -14",
            "sheet(0, 4, MAX) ! -1", "sheet(MAX, 0, 1) ! -1", "sheet(MIN, 0, 1) ! -1", "sheet(0, MAX, 1) ! -1");
        // of two the first named
        inHouse("sheet(4, 0, -1) ! -1", "sheet(0, 5, -1) ! -1", "sheet(-1, -1, 0) ! -1", "sheet(4, -1, -1) ! -1", "sheet(0, -2, -1) ! -1");
    }

    @Remark("Promise 43: Item i becomes v, narrowed to its sort (booleans: whether it is not 0): 1.")
    void writeNarrows() {
        int[] wide = {127, 128, 255, 256, -128, -129, 32767, 32768, 65535, 65536, -32768, -32769, Integer.MAX_VALUE, Integer.MIN_VALUE, 0, 1, -1};
        for (int sort = 0; sort <= 4; sort++) {
            Run run = new Run("sheet(1, " + sort + ", 1) = 1");
            for (int v : wide) {
                int narrow = sort == 0 ? (byte) v : sort == 1 ? (short) v : sort == 4 ? (v == 0 ? 0 : 1) : v;
                run.go("write(1, 0, " + v + ") = 1", "item(1, " + sort + ", 0) ? " + narrow);
            }
            take(run);
        }
        // by itself alone
        run("sheet(1, 0, 3) = 1", "write(1, 1, 5) = 1", "item(1, 0, 0) ? 0", "item(1, 0, 1) ? 5", "item(1, 0, 2) ? 0");
    }

    @Remark("Promise 43: BAD: no such SHEET; -11; -12.")
    void writeBounds() {
        inHouse("write(-1, 0, 1) ! -1", "write(4, 0, 1) ! -1", "write(MAX, 0, 1) ! -1", "write(MIN, 0, 1) ! -1", "write(2, 0, 1) ! -11", "write(0, 5, 1) ! -12", "write(0, -1, 1) ! -12",
            "write(0, MAX, 1) ! -12", "write(0, MIN, 1) ! -12", "write(1, 3, 1) ! -12");
        inHouse("write(4, -1, 1) ! -1", "write(2, -1, 1) ! -11", "write(0, 4, 1) = 1", "write(0, 0, 1) = 1", "item(0, 0, 4) ? 1", "item(0, 0, 0) ? 1");
        run("sheet(0, 0, 0) = 1", "write(0, 0, 1) ! -12", "sheet(0, 0, 40) = 1", "write(0, 39, 1) = 1", "write(0, 40, 1) ! -12");
    }

    @Remark("Promise 44: Item i, taken for a sort (0 to 4; of longs the lowest 32 bits; of booleans 1, 0).")
    void itemOfSorts() {
        for (int sort = 0; sort <= 4; sort++) {
            Run run = new Run("sheet(3, " + sort + ", 2) = 1", "write(3, 1, 1) = 1", "item(3, " + sort + ", 0) ? 0", "item(3, " + sort + ", 1) ? 1");
            for (int other = 0; other <= 4; other++) {
                run.go("item(3, " + other + ", 1) ? " + (other == sort ? 1 : -13));
            }
            take(run);
        }
        run("sheet(0, 3, 1) = 1", "write(0, 0, MIN) = 1", "item(0, 3, 0) ? MIN", "write(0, 0, MAX) = 1", "item(0, 3, 0) ? MAX", "write(0, 0, -1) = 1", "item(0, 3, 0) ? -1");
    }

    @Remark("Promise 44: BAD: no such SHEET, sort; -13; -11; -12.")
    void itemBounds() {
        inHouse("item(-1, 0, 0) ! -1", "item(4, 0, 0) ! -1", "item(0, -1, 0) ! -1", "item(0, 5, 0) ! -1", "item(MAX, 0, 0) ! -1", "item(0, MIN, 0) ! -1", "item(1, 0, 0) ! -13",
            "item(2, 0, 0) ! -11", "item(0, 0, 5) ! -12", "item(0, 0, -1) ! -12", "item(0, 0, MAX) ! -12", "item(0, 0, MIN) ! -12", "item(0, 0, 4) ? 0");
        // of two the first named
        inHouse("item(4, 5, -1) ! -1", "item(2, 5, 0) ! -1", "item(1, 5, 9) ! -1", "item(1, 0, 9) ! -13", "item(1, 3, -1) ! -13", "item(2, 4, -1) ! -11", "item(2, 0, 40) ! -11");
        run("sheet(0, 0, 0) = 1", "item(0, 0, 0) ! -12");
    }

    @Remark("Promise 44: (An item may be as low as these, too.)")
    void itemsAsLow() {
        run("sheet(0, 2, 4) = 1", "write(0, 0, -1) = 1", "item(0, 2, 0) ? -1", "write(0, 1, -11) = 1", "item(0, 2, 1) ? -11", "write(0, 2, -12) = 1", "item(0, 2, 2) ? -12", "write(0, 3, -13) = 1",
            "item(0, 2, 3) ? -13");
    }

    // ---- Promises 45 and 46

    @Remark("Promise 45: n (0 to 20) items of a SHEET taken for bytes, from item i on, are ACTS, each followed by a MINUTE")
    void goAllOfNoneToTwenty() {
        // 8 + 5 in FOG 2; 4 less 1 in FOG 3, and 5
        run(with(ACTS, "goAll(0, 0, 0) = 0", "state(0) ? 0", "goAll(0, 0, 1) = 0", "state(0) ? 1", "goAll(0, 1, 2) = 21", "state(0) ? 3", "state(2) ? 21", "state(4) ? 3"));
        run("ends(16) = 12", "sheet(0, 0, 40) = 1", "goAll(0, 0, 21) ! -1", "goAll(0, 20, 20) = 0", "state(0) ? 16");
        run("ends(16) = 12", "sheet(0, 0, 20) = 1", "goAll(0, 0, 20) = 0", "state(0) ? 16");
        // of no items none can be asked
        run("sheet(0, 0, 0) = 1", "goAll(0, 0, 0) = 0", "goAll(0, 0, 1) ! -12");
    }

    @Remark("Promise 45: what these MINUTES were WORTH together.")
    void goAllTogether() {
        // of none 0; what MINUTES ahead of them were WORTH counts nothing
        run(with(ACTS, "minute() = 13", "goAll(0, 0, 0) = 0", "goAll(0, 5, 1) = 9", "state(2) ? 22", "goAll(0, 5, 2) = 8", "state(2) ? 30"));
    }

    @Remark("Promise 45: (what is none, or when it is OVER, is left out)")
    void goAllLeavesOut() {
        // 3 and -1 are no ACTS of two PANES: no MINUTE goes by
        run(with(ACTS, "goAll(0, 3, 2) = 0", "state(0) ? 0", "goAll(0, 2, 4) = 12", "state(0) ? 2", "paneOf(1, 2) ? 2"));
        run(with(ACTS, "pane(4, 255, 2) = 2", "goAll(0, 3, 1) = 13", "state(4) ? 4"));
        run("sheet(0, 0, 2) = 1", "write(0, 0, 127) = 1", "write(0, 1, 128) = 1", "goAll(0, 0, 2) = 0", "state(0) ? 0");
        // OVER behind the second
        alike(with(ACTS, "ends(2) = 12", "goAll(0, 0, 7) = 13"), with(ACTS, "ends(2) = 12", "goAll(0, 0, 2) = 13"));
        run(with(ACTS, "ends(1) = 12", "minute() = 13", "goAll(0, 0, 7) ? 0", "state(0) ? 1"));
    }

    @Remark("Promise 45: BAD: no such SHEET, n; -13; -11; -12: what stood ahead was done.")
    void goAllBounds() {
        inHouse("goAll(-1, 0, 1) ! -1", "goAll(4, 0, 1) ! -1", "goAll(0, 0, -1) ! -1", "goAll(0, 0, 21) ! -1", "goAll(MAX, 0, 0) ! -1", "goAll(0, 0, MIN) ! -1", "goAll(1, 0, 0) ! -13",
            "goAll(3, 0, 1) ! -13", "goAll(2, 0, 0) ! -11", "goAll(2, 0, 1) ! -11", "goAll(0, 5, 1) ! -12", "goAll(0, -1, 1) ! -12", "goAll(0, MAX, 2) ! -12", "goAll(0, MIN, 20) ! -12");
        inHouse("goAll(4, 0, 21) ! -1", "goAll(1, 0, 21) ! -1", "goAll(2, 0, -1) ! -1", "goAll(1, 9, 1) ! -13", "goAll(2, 9, 1) ! -11");
        // the last item is done, then the place behind it is outside; behind the END, too
        alike(with(ACTS, "goAll(0, 6, 1) = 13"), with(ACTS, "goAll(0, 6, 2) = -12"));
        alike(with(ACTS, "goAll(0, 0, 7) = 29"), with(ACTS, "goAll(0, 0, 20) = -12"));
        run(with(ACTS, "ends(1) = 12", "minute() = 13", "goAll(0, 6, 1) ? 0", "goAll(0, 6, 2) ! -12", "goAll(0, 7, 1) ! -12", "goAll(0, 7, 0) ? 0"));
    }

    @Remark("Promise 46: n (0 to 20) items likewise: what they would be WORTH.")
    void wouldBeOfNoneToTwenty() {
        run(with(ACTS, "wouldBe(0, 0, 0) ? 0", "wouldBe(0, 0, 1) ? 0", "wouldBe(0, 0, 2) ? 13", "wouldBe(0, 0, 3) ? 21", "wouldBe(0, 5, 2) ? 22", "wouldBe(0, 6, 1) ? 13"));
        // SCORE ahead of them counts nothing
        run(with(ACTS, "minute() = 13", "wouldBe(0, 5, 1) ? 9"));
        run("ends(16) = 12", "sheet(0, 0, 40) = 1", "wouldBe(0, 24, 16) ? 0", "wouldBe(0, 20, 20) ! -4", "wouldBe(0, 0, 21) ! -1");
        run("sheet(0, 0, 0) = 1", "wouldBe(0, 0, 0) ? 0", "wouldBe(0, 0, 1) ! -12");
    }

    @Remark("Promise 46: BAD: no such SHEET, n; -13; -11; then, by items, -12; STATE: one is no ACT, or it would be OVER ahead of it.")
    void wouldBeBounds() {
        inHouse("wouldBe(-1, 0, 1) ! -1", "wouldBe(4, 0, 1) ! -1", "wouldBe(0, 0, -1) ! -1", "wouldBe(0, 0, 21) ! -1", "wouldBe(MIN, 0, 0) ! -1", "wouldBe(0, 0, MAX) ! -1",
            "wouldBe(1, 0, 0) ! -13", "wouldBe(3, 0, 0) ! -13", "wouldBe(2, 0, 0) ! -11", "wouldBe(0, 5, 1) ! -12", "wouldBe(0, -1, 1) ! -12", "wouldBe(0, MAX, 20) ! -12",
            "wouldBe(0, MIN, 20) ! -12", "wouldBe(1, 9, 21) ! -1");
        // no ACT above, below; of an item outside and one that is none, what comes first
        run(with(ACTS, "wouldBe(0, 3, 1) ! -4", "wouldBe(0, 4, 1) ! -4", "wouldBe(0, 0, 4) ! -4", "wouldBe(0, 2, 20) ! -4", "wouldBe(0, 5, 3) ! -12", "wouldBe(0, 7, 1) ! -12",
            "pane(4, 0, 0) = 2", "wouldBe(0, 3, 1) ? 0"));
        // OVER ahead of the third; ahead of the first; none are asked
        run(with(ACTS, "ends(2) = 12", "wouldBe(0, 0, 2) ? 13", "wouldBe(0, 0, 3) ! -4", "wouldBe(0, 5, 3) ! -12", "ends(1) = 2", "wouldBe(0, 5, 3) ! -4", "minute() = 13",
            "wouldBe(0, 0, 1) ! -4", "wouldBe(0, 7, 1) ! -12", "wouldBe(0, 0, 0) ? 0"));
    }

    // ---- Promises 47 to 51

    @Remark("Promise 47: A SHELF holds PANE n (what 0), the row of SHEET n (1; nothing, if missing), nothing (2): 1.")
    void shelfHolds() {
        inHouse("shelf(2, 0, 0) = 1", "taken(2, 0) ? 0", "shelf(2, 0, 4) = 1", "taken(2, 0) ? 4", "shelf(2, 1, 0) = 1", "taken(2, 10) ? 5", "shelf(2, 1, 3) = 1", "taken(2, 14) ? 2",
            "shelf(2, 1, 2) = 1", "taken(2, 14) ! -11", "shelf(2, 0, 4) = 1", "shelf(2, 2, 0) = 1", "taken(2, 0) ! -11", "shelf(2, 2, 99) = 1");
        // the others hold what they held
        inHouse("shelf(2, 0, 1) = 1", "taken(0, 5) ? 3", "taken(1, 12) ? 3", "taken(3, 3) ? 4", "shelf(0, 2, 0) = 1", "taken(1, 12) ? 3", "taken(2, 2) ? 1");
    }

    @Remark("Promise 47: BAD: no such SHELF, what, thing.")
    void shelfBounds() {
        inHouse("shelf(-1, 0, 0) ! -1", "shelf(4, 0, 0) ! -1", "shelf(4, 1, 0) ! -1", "shelf(4, 2, 0) ! -1", "shelf(0, -1, 0) ! -1", "shelf(0, 3, 0) ! -1", "shelf(0, 0, -1) ! -1",
            "shelf(0, 0, 5) ! -1", "shelf(0, 1, -1) ! -1", "shelf(0, 1, 4) ! -1");
        inHouse("shelf(MAX, 2, 0) ! -1", "shelf(MIN, 2, 0) ! -1", "shelf(0, MAX, 0) ! -1", "shelf(0, 0, MAX) ! -1", "shelf(0, 0, MIN) ! -1", "shelf(0, 1, MAX) ! -1", "pane(1, 0, 0) = 5",
            "shelf(0, 0, 5) = 1", "shelf(0, 0, 6) ! -1");
        run("shelf(0, 0, 0) ! -1", "shelf(0, 1, 0) = 1", "shelf(0, 1, 3) = 1");
    }

    @Remark("Promise 48: What a SHELF holds taken for a thing of KIND as (0 to 5, or one under it): its number")
    void takenAsKinds() {
        // of each KIND, as which it can be taken
        int[][] as = {{0, 1}, {0, 2}, {0, 2, 3}, {0, 4}, {0, 4, 5}};
        for (int k = 0; k < 5; k++) {
            Run run = new Run(with(THINGS, "shelf(3, 0, " + k + ") = 1"));
            for (int kind = 0; kind <= 5; kind++) {
                boolean is = false;
                for (int each : as[k]) {
                    is |= each == kind;
                }
                run.go("taken(3, " + kind + ") ? " + (is ? k : -13));
            }
            for (int sort = 10; sort <= 14; sort++) {
                run.go("taken(3, " + sort + ") ! -13");
            }
            take(run);
        }
    }

    @Remark("Promise 48: for a row of sort as - 10 (as 10 to 14): how many items.")
    void takenAsRows() {
        for (int sort = 0; sort <= 4; sort++) {
            Run run = new Run("sheet(0, " + sort + ", 40) = 1", "shelf(0, 1, 0) = 1", "sheet(1, " + sort + ", 0) = 1", "shelf(1, 1, 1) = 1");
            for (int as = 10; as <= 14; as++) {
                run.go("taken(0, " + as + ") ? " + (as == 10 + sort ? 40 : -13), "taken(1, " + as + ") ? " + (as == 10 + sort ? 0 : -13));
            }
            take(run.go("taken(0, 0) ! -13", "taken(0, 5) ! -13"));
        }
    }

    @Remark("Promise 48: BAD: no such SHELF, as; -13; -11.")
    void takenBounds() {
        inHouse("taken(-1, 0) ! -1", "taken(4, 0) ! -1", "taken(0, -1) ! -1", "taken(0, 6) ! -1", "taken(0, 9) ! -1", "taken(0, 15) ! -1", "taken(MAX, 0) ! -1", "taken(MIN, 0) ! -1",
            "taken(0, MAX) ! -1", "taken(0, MIN) ! -1");
        inHouse("taken(2, 0) ! -11", "taken(2, 5) ! -11", "taken(2, 10) ! -11", "taken(2, 14) ! -11", "taken(2, 6) ! -1", "taken(2, 15) ! -1", "taken(0, 1) ! -13", "taken(0, 10) ! -13",
            "taken(1, 0) ! -13", "taken(1, 10) ! -13", "taken(1, 6) ! -1", "taken(4, 6) ! -1");
    }

    @Remark("Promise 49: An ACT (0 to 3) of the thing on a SHELF, with x.")
    void actOfNoneToThree() {
        run(with(THINGS, "shelf(3, 0, 0) = 1", "act(3, 0, 10) = 31", "act(3, 1, 10) = 27", "act(3, 2, 10) = 1", "act(3, 3, 10) = 26", "act(3, 4, 10) = 0", "act(3, -1, 10) = 0"));
    }

    @Remark("Promise 49: 0, and no TRACE then: no such SHELF, act, nothing, a row.")
    void actOfNothing() {
        // all but THE TRACE is as it was
        for (String call : new String[] {"act(-1, 0, 5)", "act(4, 0, 5)", "act(0, -1, 5)", "act(0, 4, 5)", "act(2, 0, 5)", "act(1, 0, 5)", "act(MAX, 0, 5)", "act(MIN, 0, 5)",
            "act(0, MAX, 5)", "act(0, MIN, 5)"}) {
            run(with(FED_HOUSE, "many(6) ? 11", call + " = 0", "many(6) ? 0", "trace(0) ! -3", call + " ! 0"));
            alike(with(FED_HOUSE, call + " = 0", "act(3, 3, 5) = 7"), FED_HOUSE);
        }
    }

    @Remark("Promise 50: THE TRACE's i-th body. NONE.")
    void traceBounds() {
        inHouse("trace(0) ? 51", "trace(10) ? 10", "trace(11) ! -3", "trace(-1) ! -3", "trace(29) ! -3", "trace(30) ! -3", "trace(MAX) ! -3", "trace(MIN) ! -3");
        run("trace(0) ! -3");
    }

    @Remark("Promise 51: How many: what = 0 PANES, 1 RULES, 2 those SHOWN, 3 REPORTS, 4 ROWS, 5 bytes of THE TAPE, 6 bodies of THE TRACE.")
    void manyOfEach() {
        run("many(0) ? 0", "many(1) ? 0", "many(2) ? 0", "many(3) ? 0", "many(4) ? 0", "many(5) ? 0", "many(6) ? 0");
        inHouse("many(0) ? 5", "many(1) ? 2", "many(2) ? 1", "many(3) ? 3", "many(4) ? 2", "many(5) ? 8", "many(6) ? 11");
        // as many as there can be
        run(with(THINGS, "change(0, 4, 1) = 0", "change(1, 4, 1) = 0", "change(2, 4, 1) = 0", "change(3, 4, 1) = 0", "change(4, 4, 1) = 0", "change(5, 4, 1) = 0", "many(0) ? 6", "many(2) ? 6",
            "prove(4) = 4", "many(4) ? 4", "tape " + "dog rag;".repeat(8), "rules() = 8", "many(1) ? 8", "tape " + " ".repeat(200), "many(5) ? 200"));
    }

    @Remark("Promise 51: BAD: another what.")
    void manyBounds() {
        inHouse("many(6) ? 11", "many(7) ! -1", "many(-1) ! -1", "many(MAX) ! -1", "many(MIN) ! -1");
    }

    // ---- Promises 52 and 53

    @Remark("Promise 52: All but THE TAPE, ROWS, SHEETS, SHELVES, THE TRACE is kept: 1.")
    void keptAndNotKept() {
        // what is changed of the evening comes back, what is changed of the others stays
        String[] evening = {"pane(1, 9, 5) = 5", "remake(0, 4) = 1", "change(1, 1, 33) = 90", "change(2, 2, 8) = 0", "change(3, 3, 5) = 0", "change(4, 4, 1) = 0", "news(0, 1) = 4", "news(15, 1) = 6",
            "ward(0, 0, 7) = 1", "ward(5, 1, 7) = 3", "lord(0, 9) = 1", "lord(1, 999) = 54", "ends(16) = 12", "minute() = 9", "forget() = 3", "report(5, 0, 8, 8) = 0", "report(0, 0, 1, 1) = 1",
            "report(0, 1, 2, 2) = 2", "report(1, 1, 3, 3) = 3", "report(2, 1, 4, 4) = 4", "report(3, 1, 5, 5) = 5", "seed(-4) = 5",
            "tape pane rag;", "rules() = 1"};
        String[] others = {"prove(3) = 3", "alterRow(0, 0, 44) = any", "sheet(0, 1, 9) = 1", "write(0, 8, 300) = 1", "sheet(2, 3, 2) = 1", "shelf(1, 0, 0) = 1", "shelf(2, 1, 2) = 1",
            "shelf(3, 2, 0) = 1", "act(1, 1, 3) = any", "tape dog look;"};
        alike(with(with(with(HOUSE, "keep() = 1"), others), "again() = 5"), with(with(HOUSE, "keep() = 1"), others));
        alike(with(with(with(HOUSE, "keep() = 1"), evening), "again() = 5"), with(HOUSE, "keep() = 1"));
        alike(with(with(with(with(HOUSE, "keep() = 1"), others), "rules() = 1"), "again() = 5"), with(with(with(HOUSE, "keep() = 1"), others), "tape x", "rules() = -109"));
    }

    @Remark("Promise 52: is kept: 1.")
    void keepOfNothing() {
        // without PANES; when it is OVER; twice
        run("keep() = 1", "keep() = 1", "pane(1, 0, 0) = 0", "minute() = 0", "again() = 0", "many(0) ? 0", "state(0) ? 0");
        run("ends(1) = 12", "minute() = 0", "keep() = 1", "anew() = 1", "state(3) ? 0", "again() = 0", "state(3) ? 1", "state(0) ? 1");
        // but for what is kept it changes nothing
        alike(with(FED_HOUSE, "keep() = 1", "keep() = 1"), with(FED_HOUSE, "keep() = 1"));
    }

    @Remark("Promise 53: It becomes what was kept latest (which stays): how many PANES.")
    void againTheLatest() {
        run("pane(1, 1, 0) = 0", "keep() = 1", "pane(1, 2, 0) = 1", "keep() = 1", "pane(1, 3, 0) = 2", "change(0, 1, 9) = 1", "again() = 2", "paneOf(0, 1) ? 1", "paneOf(1, 1) ? 2",
            "paneOf(2, 1) ! -1", "change(0, 1, 9) = 1", "minute() = 0", "again() = 2", "paneOf(0, 1) ? 1", "state(0) ? 0", "again() = 2");
        run(with(THINGS, "keep() = 1", "anew() = 0", "again() = 6", "pane(1, 0, 0) ! -2"));
        alike(with(HOUSE, "again() = 4", "again() = 4"), with(HOUSE, "again() = 4"));
        alike(with(HOUSE, "again() = 4", "minute() = any", "seed(9) = any", "forget() = 2", "tape dog look;dog rag;", "rules() = 2", "again() = 4"), with(HOUSE, "again() = 4"));
    }

    @Remark("Promise 53: NONE: nothing is kept.")
    void againOfNothing() {
        run("again() ! -3", "pane(1, 0, 0) = 0", "minute() = 0", "again() ! -3", "keep() = 1", "again() = 1");
        // what is kept belongs to one object alone
        run("keep() = 1");
        run("again() ! -3");
    }
}
