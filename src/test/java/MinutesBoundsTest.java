/** Boundary cases of THE REST, dark PANES, SCENES that come back, COMPANIES and TOURS: Terms 3, promises 15 to 23. */
public final class MinutesBoundsTest extends Bounds {
    /** A lad of five lights in FOG 9, who has two LIGHTS till FOG is 6 in MINUTE 15, the last one. */
    private static final String[] LATE = {"ends(16) = 12", "pane(4, 31, 0) = 0", "lord(0, 9) = 0", "news(15, 13) = 4"};

    public static void main(String[] args) throws Exception {
        holdAll(MinutesBoundsTest.class);
    }

    // ---- Terms 3

    @Remark("Terms 3: What is asked changes nothing, if not told.")
    void askedOfTheEvening() {
        inHouse("paneOf(4, 8) ? any", "wardOf(1, 1) ? any", "state(5) ? any", "on(16) ? any", "when(2) ? any", "sceneFor(4) ? any", "wardFor(4) ? any",
            "dark(4) ? any", "back(4) ? any", "companies(-1) ? any", "companies(4) ? any", "tour(255, 0) ? any", "tour(255, 1) ? any");
    }

    @Remark("Terms 3: What is asked changes nothing, if not told.")
    void askedOfPlans() {
        inHouse("best(4) ? any", "ith(4, 3) ? any", "ways(4) ? any", "visit(4, 31) ? any", "bars(4, 31) ? any", "game(4) ? any", "play(4) ? any", "who(0) ? any",
            "who(2) ? any", "liar() ? any", "times(40, 9) ? any", "row(1, 2) ? any", "judge() ? any");
    }

    @Remark("Terms 3: What is asked changes nothing, if not told.")
    void askedOfTheHost() {
        inHouse("item(1, 2, 2) ? -70000", "wouldBe(0, 0, 2) ? any", "taken(0, 5) ? 3", "trace(10) ? 10", "many(6) ? 11");
    }

    @Remark("Terms 3: THE REST: all MINUTES yet, in each, behind (1), the least PANE being told that WOULD show (none, if there is none).")
    void restTellsTheLeast() {
        // of two that would the least; FOG 2 becomes 3, by which PANE 0 has 2 LIGHTS and PANE 1 just 3
        run("pane(4, 7, 0) = 0", "pane(4, 15, 1) = 1", "lord(0, 1) = 0", "minute() = 8", "state(4) ? 1");
        run("pane(4, 7, 0) = 0", "pane(4, 15, 1) = 1", "lord(0, 2) = 0", "minute() = 8", "state(4) ? 2", "paneOf(0, 2) ? 0");
        // none would: no PANES, none with 3 LIGHTS, all SHOWN; SCENES go on
        run("minute() = 0", "state(0) ? 1");
        run("pane(4, 3, 0) = 0", "minute() = 0", "paneOf(0, 2) ? 0", "paneOf(0, 1) ? 12", "state(0) ? 1");
        run("pane(4, 255, 0) = 0", "change(0, 4, 1) = 0", "minute() = 0", "paneOf(0, 2) ? 0", "paneOf(0, 1) ? 255");
        // one that is told and passed keeps the next from being told, in each MINUTE
        run("pane(4, 255, 0) = 0", "pane(4, 255, 1) = 1", "tape lad if number=0 pass;", "rules() = 1", "on(16) ? 0", "when(1) ! -3");
        // the sixth PANE, when all ahead of it are SHOWN
        run("pane(4, 255, 0) = 0", "pane(4, 255, 0) = 1", "pane(4, 255, 0) = 2", "pane(4, 255, 0) = 3", "pane(4, 255, 0) = 4", "pane(4, 7, 1) = 5",
            "change(0, 4, 1) = 0", "change(1, 4, 1) = 0", "change(2, 4, 1) = 0", "change(3, 4, 1) = 0", "change(4, 4, 1) = 0", "minute() = 8", "state(4) ? 63");
    }

    @Remark("Terms 3: DARK: the first MINUTE up to END behind which the SCENE of a PANE is 0, were none told.")
    void darkUpToEnd() {
        // a sewer's 1 is 0 behind eight MINUTES: MINUTE 7 is the last one, or END is reached ahead of it
        run("pane(2, 1, 0) = 0", "dark(0) ? 7", "ends(8) = 12", "dark(0) ? 7", "ends(7) = 8", "dark(0) ! -3");
        run("pane(2, 255, 0) = 0", "ends(1) = 12", "dark(0) ? 0");
        run("pane(2, 85, 0) = 0", "ends(2) = 12", "dark(0) ? 1", "ends(1) = 2", "dark(0) ! -3");
        // MINUTE 15, told by its number
        run(with(new String[] {"pane(2, 0, 0) = 0", "ends(16) = 12"},
            with(times(8, "minute() = 0"), "change(0, 1, 1) = 0", "dark(0) ? 15", "ends(15) = 16", "dark(0) ! -3")));
        // behind a MINUTE: that it is 0 now counts nothing
        run("pane(3, 0, 0) = 0", "dark(0) ? 0", "minute() = 0", "paneOf(0, 1) ? 0", "dark(0) ? 2", "ends(2) = 12", "dark(0) ! -3");
        // were none told: a look would put a light out
        run("pane(1, 7, 0) = 0", "ward(0, 1, 9) = 3", "dark(0) ! -3");
    }

    @Remark("Terms 3: DARK: the first MINUTE up to END")
    void darkWhenOver() {
        run("pane(2, 0, 0) = 0", "ends(1) = 12", "dark(0) ? 0", "minute() = 0", "dark(0) ! -3", "ends(2) = 1", "dark(0) ? 1");
        run(with(new String[] {"pane(2, 0, 0) = 0", "ends(16) = 12"}, with(times(16, "minute() = 0"), "dark(0) ! -3")));
    }

    @Remark("Terms 3: BACK: behind how many MINUTES (1 to 64, also beyond END) its SCENE is first as it is now, were none told.")
    void backBeyondEnd() {
        run("pane(1, 1, 0) = 0", "back(0) ? 8", "ends(8) = 12", "back(0) ? 8", "ends(7) = 8", "back(0) ? 8", "ends(1) = 7", "back(0) ? 8", "minute() = 0",
            "back(0) ? 8");
        // when it is OVER, behind MINUTE 15: a widow's 0 in an even MINUTE, a dog's 1 from MINUTE 16 on
        run(with(new String[] {"pane(3, 0, 0) = 0", "pane(5, 0, 1) = 1", "ends(16) = 12", "sheet(0, 0, 16) = 1"},
            "goAll(0, 0, 16) = 0", "change(0, 1, 0) = 255", "back(0) ? 1", "change(0, 1, 255) = 0", "back(0) ? 2",
            "change(1, 1, 1) = 60", "back(1) ? 12"));
    }

    @Remark("Terms 3: BACK: behind how many MINUTES (1 to 64, also beyond END) its SCENE is first as it is now, were none told.")
    void backFirstAndNever() {
        // behind one MINUTE, the first of several, never
        run("pane(1, 255, 0) = 0", "back(0) ? 1", "change(0, 1, 0) = 255", "back(0) ? 1", "change(0, 1, 85) = 0", "back(0) ? 2", "change(0, 1, 17) = 85",
            "back(0) ? 4", "change(0, 1, 3) = 17", "back(0) ? 8");
        run("pane(4, 1, 0) = 0", "back(0) ? 4", "change(0, 1, 17) = 1", "back(0) ? 2", "change(0, 1, 85) = 17", "back(0) ? 1");
        run("pane(2, 1, 0) = 0", "back(0) ! -3", "change(0, 1, 255) = 1", "back(0) ! -3", "change(0, 1, 0) = 255", "back(0) ? 1");
        run("pane(3, 0, 0) = 0", "back(0) ? 1", "change(0, 1, 255) = 0", "back(0) ? 2", "change(0, 1, 1) = 255", "back(0) ! -3", "minute() = 0",
            "change(0, 1, 0) = 3", "back(0) ? 2", "change(0, 1, 255) = 0", "back(0) ? 1");
        // a dog's lights come back behind 12 at the latest; from MINUTE 2 on its 0 is 15, 60, 240, 204, 51, 204, 60, 240, 195, 0
        run("pane(5, 1, 0) = 0", "back(0) ? 12", "change(0, 1, 0) = 1", "back(0) ? 1", "minute() = 0", "minute() = 0", "back(0) ? 10");
        // were none told: it would be looked at
        run("pane(1, 7, 0) = 0", "on(1) ? 8", "back(0) ? 8");
    }

    @Remark("Terms 3: CLOSE: two PANES that aren't SHOWN, of one WARD, or whose SCENES are unlike in 2 lights at most")
    void closeByWardOrScene() {
        run("pane(1, 0, 0) = 0", "pane(1, 1, 1) = 1", "companies(-1) ? 1", "change(1, 1, 129) = 1", "companies(0) ? 3", "companies(-1) ? 1", "change(1, 1, 131) = 129",
            "companies(0) ? 1", "companies(1) ? 2", "companies(-1) ? 2", "change(1, 1, 255) = 131", "companies(-1) ? 2", "change(1, 3, 0) = 1", "companies(-1) ? 1",
            "companies(1) ? 3", "change(0, 4, 1) = 0", "companies(0) ? 0", "companies(1) ? 2", "companies(-1) ? 1");
    }

    @Remark("Terms 3: a COMPANY: all that hang together so, one by the other.")
    void companyOneByTheOther() {
        // a row 3-1-0-2-4-5 by two lights each; without PANE 0 it is parted
        run("pane(1, 15, 0) = 0", "pane(1, 3, 1) = 1", "pane(1, 63, 2) = 2", "pane(1, 0, 3) = 3", "pane(1, 255, 4) = 4", "pane(1, 243, 5) = 5",
            "companies(-1) ? 1", "companies(3) ? 63", "companies(5) ? 63", "change(0, 4, 1) = 0", "companies(-1) ? 2", "companies(3) ? 10", "companies(5) ? 52",
            "companies(0) ? 0");
        // each for itself; none
        run("pane(1, 0, 0) = 0", "pane(1, 7, 1) = 1", "pane(1, 56, 2) = 2", "pane(1, 217, 3) = 3", "pane(1, 170, 4) = 4", "pane(1, 101, 5) = 5", "companies(-1) ? 6",
            "companies(5) ? 32");
        run("companies(-1) ? 0", "pane(1, 0, 0) = 0", "companies(-1) ? 1", "companies(0) ? 1", "change(0, 4, 1) = 0", "companies(-1) ? 0", "companies(0) ? 0");
    }

    @Remark("Terms 3: TOUR from a SCENE: the fewest lights that change on the way to SCENES of all PANES that aren't SHOWN, one behind the other")
    void tourOfNoneToSix() {
        run("tour(255, 0) ? 0", "pane(1, 255, 0) = 0", "tour(0, 0) ? 8", "tour(255, 0) ? 0", "tour(127, 0) ? 1", "change(0, 4, 1) = 0", "tour(0, 0) ? 0");
        run("pane(1, 0, 0) = 0", "pane(1, 255, 0) = 1", "pane(1, 0, 0) = 2", "pane(1, 255, 0) = 3", "pane(1, 0, 0) = 4", "pane(1, 255, 0) = 5", "tour(0, 0) ? 8",
            "tour(255, 0) ? 8", "tour(15, 0) ? 12", "tour(7, 0) ? 11");
        // 15, 240, 3 from 0: by 3, 15, 240 in 2 + 2 + 8; without 240 in 4, without 3 in 12
        run("pane(1, 15, 0) = 0", "pane(1, 240, 0) = 1", "pane(1, 3, 0) = 2", "tour(0, 0) ? 12", "change(1, 4, 1) = 0", "tour(0, 0) ? 4", "change(1, 4, 0) = 1",
            "change(2, 4, 1) = 0", "tour(0, 0) ? 12");
    }

    @Remark("Terms 3: of several rows the FIRST: the least PANE first, where they are unlike first.")
    void tourOfSeveralTheFirst() {
        run("pane(1, 1, 0) = 0", "pane(1, 2, 0) = 1", "tour(0, 0) ? 3", "tour(0, 1) ? 0", "tour(2, 1) ? 1", "tour(3, 1) ? 0");
        run("pane(1, 9, 0) = 0", "pane(1, 9, 0) = 1", "pane(1, 9, 0) = 2", "pane(1, 9, 0) = 3", "pane(1, 9, 0) = 4", "pane(1, 9, 0) = 5", "tour(9, 0) ? 0", "tour(9, 1) ? 0",
            "change(0, 4, 1) = 0", "tour(9, 1) ? 1");
        // the sixth one alone begins the fewest
        run("pane(1, 63, 0) = 0", "pane(1, 31, 0) = 1", "pane(1, 15, 0) = 2", "pane(1, 7, 0) = 3", "pane(1, 3, 0) = 4", "pane(1, 1, 0) = 5", "tour(0, 0) ? 6",
            "tour(0, 1) ? 5", "tour(255, 0) ? 7", "tour(255, 1) ? 0");
    }

    // ---- Promises 15 to 19

    @Remark("Promise 15: A MINUTE goes by as in THE REST: what it was WORTH. STATE: it is OVER.")
    void minuteTillOver() {
        run("pane(4, 7, 0) = 0", "pane(4, 7, 1) = 1", "ends(1) = 12", "minute() = 8", "minute() ! -4", "state(0) ? 1", "state(2) ? 8", "ends(2) = 1", "minute() = 8",
            "minute() ! -4");
        inHouse("ends(1) = 12", "minute() ! -4", "ends(2) = 1", "minute() = 9", "minute() ! -4");
        run(with(LATE, with(times(15, "minute() = 0"), "state(3) ? 0", "minute() = 8", "state(3) ? 1", "minute() ! -4")));
    }

    @Remark("Promise 16: What n (0 to 16) MINUTES of THE REST (fewer, if it is OVER) are WORTH. BAD.")
    void onBounds() {
        inHouse("on(-1) ! -1", "on(17) ! -1", "on(MAX) ! -1", "on(MIN) ! -1", "on(0) ? 0", "on(1) ? 9");
        run(with(LATE, "on(15) ? 0", "on(16) ? 8", "minute() = 0", "on(15) ? 8", "on(16) ? 8", "ends(15) = 16", "on(16) ? 0"));
        // 8 + 5 in FOG 1, in FOG 2, then 7 + 5
        run("pane(4, 255, 0) = 0", "pane(4, 255, 1) = 1", "pane(4, 255, 2) = 2", "on(0) ? 0", "on(1) ? 13", "on(2) ? 26", "on(3) ? 38", "on(16) ? 38", "ends(2) = 12",
            "on(1) ? 13", "on(2) ? 26", "on(3) ? 26", "on(16) ? 26", "minute() = 13", "minute() = 13", "on(0) ? 0", "on(1) ? 0", "on(16) ? 0", "on(17) ! -1");
    }

    @Remark("Promise 17: The first MINUTE of THE REST behind which a PANE is SHOWN. BAD; NONE (also if it is now).")
    void whenBounds() {
        run("pane(4, 7, 0) = 0", "pane(4, 7, 1) = 1", "pane(4, 3, 2) = 2", "when(0) ? 0", "when(1) ? 1", "when(2) ! -3", "when(3) ! -1", "when(-1) ! -1", "when(MAX) ! -1",
            "when(MIN) ! -1", "ends(2) = 12", "when(1) ? 1", "ends(1) = 2", "when(1) ! -3", "when(0) ? 0", "minute() = 8", "when(0) ! -3", "when(1) ! -3", "ends(2) = 1",
            "when(1) ? 1");
        // the first and the last MINUTE; SHOWN now, though by no look
        run("pane(4, 7, 0) = 0", "pane(4, 7, 1) = 1", "change(1, 4, 1) = 0", "when(1) ! -3", "when(0) ? 0", "change(0, 4, 1) = 0", "change(1, 4, 0) = 1", "when(1) ? 0", "when(0) ! -3");
        run(with(LATE, "when(0) ? 15", "ends(15) = 16", "when(0) ! -3", "ends(16) = 15", "change(0, 4, 1) = 0", "when(0) ! -3"));
    }

    @Remark("Promise 18: SCENE with which a PANE makes THE REST WORTH most; of several the least. BAD.")
    void sceneForBounds() {
        // the greatest SCENE; all alike when it is SHOWN, can't be looked at, or it is OVER; of those with four lights the least
        run("pane(4, 0, 0) = 0", "sceneFor(0) ? 255", "sceneFor(1) ! -1", "sceneFor(-1) ! -1", "sceneFor(MAX) ! -1", "sceneFor(MIN) ! -1", "change(0, 4, 1) = 0",
            "sceneFor(0) ? 0", "change(0, 4, 0) = 1", "ward(0, 1, 0) = 3", "sceneFor(0) ? 0", "ward(0, 1, 1) = 0", "sceneFor(0) ? 255", "ends(1) = 12", "sceneFor(0) ? 255",
            "minute() = 0", "sceneFor(0) ? 0");
        run("pane(1, 200, 0) = 0", "ends(1) = 12", "lord(1, 9) = 60", "sceneFor(0) ? 15", "lord(1, 7) = 9", "sceneFor(0) ? 7", "lord(1, 5) = 7", "sceneFor(0) ? 0",
            "paneOf(0, 1) ? 200");
        run("sceneFor(0) ! -1");
    }

    @Remark("Promise 19: WARD likewise. BAD.")
    void wardForBounds() {
        // of like ones the least; the first, the last one better by a rag less
        run("pane(4, 255, 3) = 0", "wardFor(0) ? 0", "ward(0, 0, 1) = 0", "wardFor(0) ? 1", "ward(1, 0, 1) = 0", "ward(2, 1, 0) = 3", "ward(3, 0, 9) = 0", "ward(4, 0, 2) = 0",
            "wardFor(0) ? 5", "ward(5, 0, 1) = 0", "wardFor(0) ? 0", "paneOf(0, 3) ? 3", "wardFor(1) ! -1", "wardFor(-1) ! -1", "wardFor(MAX) ! -1", "wardFor(MIN) ! -1",
            "ends(1) = 12", "minute() = 0", "wardFor(0) ? 0");
        run("pane(4, 255, 3) = 0", "ward(0, 0, 1) = 0", "wardFor(0) ? 1", "change(0, 4, 1) = 0", "wardFor(0) ? 0");
        run("wardFor(0) ! -1");
    }

    // ---- Promises 20 to 23

    @Remark("Promise 20: DARK. BAD; NONE.")
    void darkBounds() {
        inHouse("dark(5) ! -1", "dark(-1) ! -1", "dark(MAX) ! -1", "dark(MIN) ! -1", "dark(0) ! -3", "change(1, 1, 255) = 90", "dark(1) ? 1");
        run("dark(0) ! -1", "pane(1, 1, 0) = 0", "dark(0) ! -3", "change(0, 1, 0) = 1", "dark(0) ? 0", "dark(1) ! -1");
    }

    @Remark("Promise 21: BACK. BAD; NONE.")
    void backBounds() {
        inHouse("back(5) ! -1", "back(-1) ! -1", "back(MAX) ! -1", "back(MIN) ! -1", "back(1) ! -3", "back(0) ? 8");
        run("back(0) ! -1", "pane(1, 0, 0) = 0", "back(0) ? 1", "back(1) ! -1");
    }

    @Remark("Promise 22: COMPANIES: what -1 how many, 0 .. 5 PANES of that PANE's COMPANY, as a set (0: it is SHOWN). BAD: also no such PANE.")
    void companiesBounds() {
        inHouse("companies(-2) ! -1", "companies(5) ! -1", "companies(6) ! -1", "companies(MAX) ! -1", "companies(MIN) ! -1", "companies(0) ? 0", "companies(4) ? 18",
            "pane(1, 0, 5) = 5", "companies(5) ? 32", "companies(6) ! -1");
        run("companies(-1) ? 0", "companies(0) ! -1");
        // each that is SHOWN, up to the last one
        run("pane(1, 0, 0) = 0", "pane(1, 0, 0) = 1", "pane(1, 0, 0) = 2", "pane(1, 0, 0) = 3", "pane(1, 0, 0) = 4", "pane(1, 0, 0) = 5", "companies(5) ? 63", "change(5, 4, 1) = 0",
            "companies(5) ? 0", "companies(0) ? 31", "change(1, 4, 1) = 0", "companies(1) ? 0", "companies(4) ? 29");
    }

    @Remark("Promise 23: TOUR from a SCENE (0 to 255): what 0 how many lights, 1 the first PANE. BAD; NONE (what 1): all are SHOWN.")
    void tourBounds() {
        inHouse("tour(-1, 0) ! -1", "tour(256, 0) ! -1", "tour(-1, 1) ! -1", "tour(256, 1) ! -1", "tour(0, -1) ! -1", "tour(0, 2) ! -1", "tour(MAX, 0) ! -1",
            "tour(0, MIN) ! -1");
        run("tour(0, 0) ? 0", "tour(255, 0) ? 0", "tour(0, 1) ! -3", "tour(255, 1) ! -3", "tour(0, 2) ! -1", "pane(1, 255, 0) = 0", "tour(0, 0) ? 8", "tour(255, 0) ? 0",
            "tour(0, 1) ? 0", "tour(255, 1) ? 0", "change(0, 4, 1) = 0", "tour(0, 0) ? 0", "tour(0, 1) ! -3", "tour(256, 1) ! -1");
    }
}
