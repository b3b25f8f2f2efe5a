/** Boundary cases of PLANS, the GAME and ROWS: Terms 3, promises 24 to 30 and 38 to 41. */
public final class PlansBoundsTest extends Bounds {
    /** Lads of 8 lights and of 4, each in a WARD of its own; FOG takes a light from MINUTE 2 on. */
    private static final String[] TWO_LADS = {"pane(4, 255, 0) = 0", "pane(4, 15, 1) = 1"};
    /** Six PANES without a light, whose looks are WORTH nothing. */
    private static final String[] SIX_DARK = {"pane(4, 0, 0) = 0", "pane(4, 0, 1) = 1", "pane(4, 0, 2) = 2", "pane(4, 0, 3) = 3", "pane(4, 0, 4) = 4", "pane(4, 0, 5) = 5"};
    /** Six lads, each of 8 lights. */
    private static final String[] SIX_BRIGHT = {"pane(4, 255, 0) = 0", "pane(4, 255, 1) = 1", "pane(4, 255, 2) = 2", "pane(4, 255, 3) = 3", "pane(4, 255, 4) = 4",
        "pane(4, 255, 5) = 5"};

    public static void main(String[] args) throws Exception {
        holdAll(PlansBoundsTest.class);
    }

    // ---- Terms 3: plans

    @Remark("Terms 3: A PLAN of n: n MINUTES (fewer, if it is OVER)")
    void plansOfFewerMinutes() {
        // in three: 13, then 7 lights, then 3 of the other one and 5, which is the FIRST ahead of 13, 9 and 6
        run(with(TWO_LADS, "best(0) ? 0", "best(1) ? 13", "best(2) ? 22", "best(3) ? 28", "best(4) ? 33", "ends(4) = 12", "best(4) ? 33", "ends(3) = 4", "best(4) ? 28",
            "ith(4, 2) ? 2", "ith(4, 3) ! -3", "ends(1) = 3", "best(4) ? 13", "best(1) ? 13", "ith(4, 0) ? 1", "ith(4, 1) ! -3", "minute() = 13", "best(4) ? 0", "best(0) ? 0",
            "ways(4) ? 1", "ith(4, 0) ! -3"));
    }

    @Remark("Terms 3: ahead of each an ACT: 0 none is told, or 1 more than the number of the PANE that is.")
    void actsOfNoneToSix() {
        // each of 7 ACTS ahead of each MINUTE; without PANES just one
        run(with(SIX_DARK, "ways(0) ? 1", "ways(1) ? 7", "ways(2) ? 49", "ways(3) ? 343", "ways(4) ? 2401", "ith(4, 0) ? 0", "ith(4, 3) ? 0", "change(5, 1, 7) = 0",
            "best(1) ? 8", "ways(1) ? 1", "ith(1, 0) ? 6", "change(5, 1, 0) = 7", "change(0, 1, 7) = 0", "ith(1, 0) ? 1"));
        run("ways(4) ? 1", "best(4) ? 0", "ith(4, 3) ? 0");
    }

    @Remark("Terms 3: Its WORTH: of these MINUTES together.")
    void worthOfThePlan() {
        // SCORE ahead of the PLAN counts nothing
        run(with(TWO_LADS, "minute() = 13", "state(2) ? 13", "best(0) ? 0", "best(1) ? 9", "best(2) ? 15"));
    }

    @Remark("Terms 3: BEST: those with most WORTH; the FIRST of these is that with the lesser ACT where they are unlike first.")
    void firstOfTheBest() {
        // one look is borne, now or later: 0 1 ahead of 1 0 and 1 1
        run("pane(4, 7, 0) = 0", "ward(0, 1, 1) = 3", "best(2) ? 8", "ways(2) ? 3", "ith(2, 0) ? 0", "ith(2, 1) ? 1");
        // two alike: the lesser PANE; nothing to look at: none is told
        run("pane(4, 7, 0) = 0", "pane(4, 7, 1) = 1", "ways(1) ? 2", "ith(1, 0) ? 1", "best(2) ? 16", "ways(2) ? 2", "ith(2, 0) ? 1", "ith(2, 1) ? 2");
        run("pane(1, 0, 0) = 0", "best(4) ? 0", "ways(4) ? 16", "ith(4, 0) ? 0", "ith(4, 3) ? 0");
        // nothing any more, where there was something to look at
        run(with(TWO_LADS, "ith(2, 0) ? 1", "ith(2, 1) ? 2", "change(0, 1, 0) = 255", "change(1, 1, 0) = 15", "best(2) ? 0", "ways(2) ? 9", "ith(2, 0) ? 0", "ith(2, 1) ? 0"));
        // a purse for one look at one of two: the better one, though its number is greater
        run("pane(1, 7, 0) = 0", "pane(1, 15, 1) = 1", "lord(1, 8) = 60", "best(1) ? 9", "ith(1, 0) ? 2", "ways(1) ? 1");
    }

    @Remark("Terms 3: VISIT by n, a set of PANES: the fewest ACTS that aren't 0 in a PLAN of n behind which each of them is SHOWN.")
    void visitOfNoneToAll() {
        run(with(SIX_BRIGHT, "visit(0, 0) ? 0", "visit(4, 0) ? 0", "visit(0, 1) ! -3", "visit(1, 1) ? 1", "visit(4, 32) ? 1", "visit(1, 3) ! -3", "visit(2, 3) ? 2",
            "visit(3, 15) ! -3", "visit(4, 15) ? 4", "visit(4, 60) ? 4", "visit(4, 31) ! -3", "visit(4, 63) ! -3", "change(4, 4, 1) = 0", "visit(4, 31) ? 4", "visit(0, 16) ? 0",
            "visit(3, 19) ? 2"));
        // waiting is no ACT that counts: 3 LIGHTS are there when FOG is 2, in MINUTE 1 alone
        run("pane(4, 7, 0) = 0", "lord(0, 4) = 0", "news(0, 3) = 4", "news(1, 9) = 4", "visit(1, 1) ! -3", "visit(2, 1) ? 1", "visit(4, 1) ? 1");
        // till it is OVER
        run(with(SIX_BRIGHT, "ends(2) = 12", "visit(4, 3) ? 2", "visit(4, 7) ! -3", "minute() = 13", "minute() = 13", "visit(4, 3) ? 0", "visit(4, 4) ! -3", "visit(4, 0) ? 0"));
    }

    @Remark("Terms 3: BAR: the least of them that is so behind no PLAN of n.")
    void barOfTheSet() {
        // each behind a PLAN of its own is enough; of two that never are the lesser; only those in the set
        run(with(SIX_BRIGHT, "bars(1, 63) ! -3", "bars(0, 63) ? 0", "bars(0, 62) ? 1", "bars(0, 32) ? 5", "bars(0, 0) ! -3", "bars(4, 0) ! -3", "change(2, 1, 3) = 255",
            "change(4, 1, 0) = 255", "bars(4, 63) ? 2", "bars(4, 59) ? 4", "bars(4, 43) ! -3", "bars(4, 16) ? 4", "change(2, 4, 1) = 0", "bars(4, 63) ? 4", "bars(0, 4) ! -3",
            "bars(0, 6) ? 1"));
        run(with(SIX_BRIGHT, "ends(1) = 12", "minute() = 13", "bars(4, 1) ! -3", "bars(4, 3) ? 1", "bars(4, 63) ? 1"));
        // behind 2, not behind 1
        run("pane(4, 7, 0) = 0", "lord(0, 4) = 0", "news(0, 3) = 4", "news(1, 9) = 4", "bars(1, 1) ? 0", "bars(2, 1) ! -3");
    }

    // ---- Terms 3: the game

    @Remark("Terms 3: GAME of n: two in turn, ahead of n MINUTES (till it is OVER) each an ACT (also 0)")
    void gameTillOver() {
        // the other one tells none; behind it a lad's 4 lights, less 1 in FOG 3, and 5
        run(with(TWO_LADS, "game(1) ? 13", "game(2) ? 13", "game(3) ? 21", "game(4) ? 21", "ends(3) = 12", "game(4) ? 21", "ends(2) = 3", "game(3) ? 13", "ends(1) = 2",
            "game(4) ? 13", "minute() = 13", "game(1) ? 0", "game(4) ? 0"));
        run("game(4) ? 0", "play(4) ? 0");
    }

    @Remark("Terms 3: the first one wants as much WORTH as can be, the other one as little. VALUE: that, if both play as well as they can.")
    void gameOfBoth() {
        // the other one hangs a rag in MINUTE 1: of 7 lights 5 are left in FOG 3
        run("pane(4, 255, 0) = 0", "tape lad if minute=1 rag;", "rules() = 1", "game(1) ? 13", "game(2) ? 13", "game(3) ? 18", "play(3) ? 1");
        // without 3 LIGHTS at the time the other one would have to give, so none is told
        run("pane(4, 255, 0) = 0", "tape lad if minute=0 pass;", "rules() = 1", "game(1) ? 0", "game(2) ? 0", "game(3) ? 12", "play(3) ? 0");
    }

    // ---- Terms 3: rows and their reader

    @Remark("Terms 3: ROWS of the FIRST of the BEST PLANS: for each MINUTE (ACT, what it is WORTH, PANES that are SHOWN behind it, as a set).")
    void rowsOfTheFirst() {
        run(with(TWO_LADS, "prove(2) = 2", "row(0, 0) ? 1", "row(0, 1) ? 13", "row(0, 2) ? 1", "row(1, 0) ? 2", "row(1, 1) ? 9", "row(1, 2) ? 3"));
        // nothing is done: ACT 0, WORTH 0; those SHOWN ahead of it count
        run("pane(4, 0, 0) = 0", "change(0, 4, 1) = 0", "prove(1) = 1", "row(0, 0) ? 0", "row(0, 1) ? 0", "row(0, 2) ? 1");
        // fewer, if it is OVER
        run(with(TWO_LADS, "ends(1) = 12", "prove(4) = 1", "row(0, 0) ? 1", "row(1, 0) ! -9", "minute() = 13", "prove(4) = 0", "row(0, 0) ! -9"));
    }

    @Remark("Terms 3: THE READER takes ROWS as a PLAN, from how it is now: right is one whose ACT is one, if it isn't OVER, the others as they are then.")
    void readerOfRows() {
        // ACTS are 0 to how many PANES there are; a look in the dark is WORTH nothing
        run("pane(4, 0, 0) = 0", "prove(1) = 1", "judge() ? 0", "alterRow(0, 0, 1) = 0", "judge() ? 0", "alterRow(0, 0, 2) = 1", "judge() ? 1", "alterRow(0, 0, -1) = 2",
            "judge() ? 1", "alterRow(0, 0, MAX) = -1", "judge() ? 1", "alterRow(0, 0, MIN) = MAX", "judge() ? 1", "pane(4, 0, 0) = 1", "alterRow(0, 0, 2) = MIN", "judge() ? 0");
        // one off in what it is WORTH and in those SHOWN
        run(with(TWO_LADS, "prove(2) = 2", "alterRow(1, 1, 10) = 9", "judge() ? 2", "alterRow(1, 1, 8) = 10", "judge() ? 2", "alterRow(1, 1, 9) = 8", "judge() ? 0",
            "alterRow(1, 2, 1) = 3", "judge() ? 2", "alterRow(1, 2, 7) = 1", "judge() ? 2", "alterRow(1, 2, 3) = 7", "judge() ? 0"));
        // from how it is now; OVER ahead of the second, ahead of the first
        run("pane(4, 0, 0) = 0", "prove(2) = 2", "judge() ? 0", "ends(2) = 12", "judge() ? 0", "ends(1) = 2", "judge() ? 2", "minute() = 0", "judge() ? 1", "ends(2) = 1",
            "judge() ? 2", "ends(3) = 2", "judge() ? 0", "change(0, 4, 1) = 0", "judge() ? 1");
    }

    // ---- Promises 24 to 30

    @Remark("Promise 24: WORTH of the BEST PLANS of n (0 to 4). BAD.")
    void bestBounds() {
        inHouse("best(-1) ! -1", "best(5) ! -1", "best(MAX) ! -1", "best(MIN) ! -1", "best(0) ? 0");
        // 8 + 5 in FOG 1 and 2, then 7 + 5 in FOG 3 and 4
        run(with(SIX_BRIGHT, "best(1) ? 13", "best(2) ? 26", "best(3) ? 38", "best(4) ? 50", "best(5) ! -1"));
    }

    @Remark("Promise 25: The i-th (0 to 3) ACT of the FIRST of them. BAD; NONE: it has not so many.")
    void ithBounds() {
        inHouse("ith(-1, 0) ! -1", "ith(5, 0) ! -1", "ith(4, -1) ! -1", "ith(4, 4) ! -1", "ith(MAX, 0) ! -1", "ith(4, MIN) ! -1", "ith(0, 0) ! -3", "ith(0, 3) ! -3",
            "ith(0, 4) ! -1", "ith(1, 1) ! -3", "ith(3, 3) ! -3");
        run(with(SIX_BRIGHT, "ith(1, 0) ? 1", "ith(4, 0) ? 1", "ith(4, 1) ? 2", "ith(4, 2) ? 3", "ith(4, 3) ? 4", "ith(3, 2) ? 3", "ith(3, 3) ! -3", "ends(3) = 12", "ith(4, 2) ? 3",
            "ith(4, 3) ! -3"));
    }

    @Remark("Promise 26: How many of them there are. BAD.")
    void waysBounds() {
        inHouse("ways(-1) ! -1", "ways(5) ! -1", "ways(MAX) ! -1", "ways(MIN) ! -1", "ways(0) ? 1");
        // four different ones: the two in FOG 1 and 2 are looked at for as much as the two in FOG 3 and 4
        run(with(SIX_BRIGHT, "ways(1) ? 6", "ways(2) ? 30", "ways(4) ? 360"));
        run(with(SIX_DARK, "ways(4) ? 2401", "ends(3) = 12", "ways(4) ? 343", "ends(1) = 3", "ways(4) ? 7", "minute() = 0", "ways(4) ? 1", "ways(0) ? 1"));
    }

    @Remark("Promise 27: VISIT by n (0 to 4), a set of PANES (of such as there are). BAD; NONE.")
    void visitBounds() {
        inHouse("visit(-1, 0) ! -1", "visit(5, 0) ! -1", "visit(4, -1) ! -1", "visit(4, 32) ! -1", "visit(4, MAX) ! -1", "visit(MIN, 0) ! -1", "visit(0, 31) ! -3",
            "visit(0, 1) ? 0", "visit(4, 0) ? 0");
        run("visit(4, 0) ? 0", "visit(4, 1) ! -1", "visit(0, 0) ? 0");
        run(with(SIX_BRIGHT, "visit(4, 63) ! -3", "visit(4, 64) ! -1", "visit(4, 48) ? 2", "visit(5, 64) ! -1"));
    }

    @Remark("Promise 28: BAR likewise. BAD; NONE: each is so behind some.")
    void barsBounds() {
        inHouse("bars(-1, 0) ! -1", "bars(5, 0) ! -1", "bars(4, -1) ! -1", "bars(4, 32) ! -1", "bars(4, MIN) ! -1", "bars(MAX, 0) ! -1", "bars(0, 31) ? 1", "bars(0, 1) ! -3");
        run("bars(4, 0) ! -3", "bars(4, 1) ! -1", "bars(0, 0) ! -3");
        run(with(SIX_BRIGHT, "bars(4, 63) ! -3", "bars(4, 64) ! -1", "bars(0, 63) ? 0"));
    }

    @Remark("Promise 29: VALUE of a GAME of n (1 to 4). BAD.")
    void gameBounds() {
        inHouse("game(0) ! -1", "game(5) ! -1", "game(-1) ! -1", "game(MAX) ! -1", "game(MIN) ! -1");
        run(with(SIX_BRIGHT, "game(1) ? 13", "game(4) ? 25", "game(0) ! -1", "game(5) ! -1"));
        run("ends(1) = 12", "minute() = 0", "game(0) ! -1", "game(5) ! -1", "game(1) ? 0");
    }

    @Remark("Promise 30: The least ACT by which who begins comes to it. BAD; NONE: it is OVER.")
    void playBounds() {
        inHouse("play(0) ! -1", "play(5) ! -1", "play(-1) ! -1", "play(MAX) ! -1", "play(MIN) ! -1");
        run(with(SIX_BRIGHT, "play(1) ? 1", "play(4) ? 1", "change(0, 4, 1) = 0", "play(1) ? 2", "ends(1) = 12", "play(4) ? 2", "minute() = 13", "play(1) ! -3", "play(4) ! -3",
            "play(0) ! -1", "play(5) ! -1"));
        run(with(SIX_DARK, "play(4) ? 0", "change(5, 1, 7) = 0", "play(1) ? 6"));
    }

    // ---- Promises 38 to 41

    @Remark("Promise 38: ROWS of the FIRST of the BEST PLANS of n (0 to 4): how many. BAD.")
    void proveBounds() {
        inHouse("prove(-1) ! -1", "prove(5) ! -1", "prove(MAX) ! -1", "prove(MIN) ! -1", "many(4) ? 2", "prove(4) = 4", "many(4) ? 4", "row(3, 0) ? any", "prove(0) = 0",
            "many(4) ? 0", "row(0, 0) ! -9");
        run(with(SIX_BRIGHT, "prove(4) = 4", "row(3, 0) ? 4", "row(3, 1) ? 12", "row(3, 2) ? 15", "prove(1) = 1", "row(1, 0) ! -9", "ends(3) = 12", "prove(4) = 3", "prove(5) ! -1",
            "many(4) ? 3"));
        // but for ROWS it changes nothing
        alike(with(HOUSE, "prove(4) = 4", "prove(2) = 2"), HOUSE);
    }

    @Remark("Promise 39: Of ROW k: what = 0 ACT, 1 WORTH, 2 those SHOWN. -9: there is none such, another what.")
    void rowBounds() {
        inHouse("row(1, 2) ? any", "row(2, 0) ! -9", "row(-1, 0) ! -9", "row(0, 3) ! -9", "row(0, -1) ! -9", "row(MAX, 0) ! -9", "row(MIN, 0) ! -9", "row(0, MAX) ! -9",
            "row(0, MIN) ! -9", "row(4, 0) ! -9");
        run("row(0, 0) ! -9", "prove(4) = 4", "row(3, 2) ? 0", "row(4, 0) ! -9", "row(3, 3) ! -9");
        // a number that wraps to a place within
        run("prove(4) = 4", "row(1431655766, 0) ! -9", "row(-1431655765, 0) ! -9");
    }

    @Remark("Promise 40: It becomes v: what it was. -9 likewise.")
    void alterRowBounds() {
        inHouse("alterRow(2, 0, 1) ! -9", "alterRow(-1, 0, 1) ! -9", "alterRow(0, 3, 1) ! -9", "alterRow(0, -1, 1) ! -9", "alterRow(MAX, 0, 1) ! -9", "alterRow(MIN, 0, 1) ! -9",
            "alterRow(0, MAX, 1) ! -9", "alterRow(0, MIN, 1) ! -9");
        run("alterRow(0, 0, 1) ! -9", "prove(4) = 4", "alterRow(3, 2, MAX) = 0", "alterRow(3, 2, MIN) = MAX", "row(3, 2) ? MIN", "alterRow(3, 2, -9) = MIN", "row(3, 2) ? -9",
            "alterRow(4, 0, 5) ! -9", "alterRow(3, 0, 0) = 0", "alterRow(3, 1, 5) = 0", "row(3, 0) ? 0", "row(3, 1) ? 5", "row(2, 2) ? 0");
        // they are told anew by prove()
        run("prove(1) = 1", "alterRow(0, 1, 7) = 0", "prove(1) = 1", "row(0, 1) ? 0");
    }

    @Remark("Promise 41: THE READER takes ROWS as such: 0 all is right; else the first ROW that isn't, and 1 more.")
    void judgeBounds() {
        run("judge() ? 0", "ends(1) = 12", "minute() = 0", "judge() ? 0");
        run("prove(4) = 4", "judge() ? 0", "alterRow(3, 1, 1) = 0", "judge() ? 4", "alterRow(1, 2, 1) = 0", "judge() ? 2", "alterRow(0, 0, 1) = 0", "judge() ? 1",
            "alterRow(0, 0, 0) = 1", "alterRow(1, 2, 0) = 1", "judge() ? 4", "alterRow(3, 1, 0) = 1", "judge() ? 0");
        inHouse("judge() ? 0", "minute() = 9", "judge() ? any", "prove(0) = 0", "judge() ? 0");
    }
}
