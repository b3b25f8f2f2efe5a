/** Boundary cases of the evening and its PANES: Terms (what is refused), Terms 1, promises 1 to 12. */
public final class EveningBoundsTest extends Bounds {
    public static void main(String[] args) throws Exception {
        holdAll(EveningBoundsTest.class);
    }

    @Remark("What it is: An object is used for at most 512 calls after it has been made")
    void theLastOf512Calls() {
        run(with(times(511, "many(0) = 0"), "state(1) = 12"));
        // the dearest ones, too
        String[] six = {"pane(4, 255, 0) = 0", "pane(4, 255, 1) = 1", "pane(4, 255, 2) = 2", "pane(4, 255, 3) = 3", "pane(4, 255, 4) = 4", "pane(4, 255, 5) = 5"};
        run(with(six, with(times(505, "best(4) = 50"), "ways(4) = 360")));
    }

    // ---- Terms

    @Remark("Terms: Answers below 0, where not told otherwise, are refusals; such a call changes nothing")
    void refusedCallsOfEachSort() {
        inHouse("pane(0, 1, 1) ! -1", "report(0, 0, 5, 4) ! -1", "when(0) ! -3", "ends(1) = 12", "minute() ! -4", "lot() ! -4", "write(2, 0, 1) ! -11",
            "write(0, 5, 1) ! -12", "item(1, 0, 0) ! -13", "sheet(0, 0, -1) ! -14", "row(2, 0) ! -9", "alterRow(2, 0, 7) ! -9");
    }

    @Remark("Terms: of several the first named: BAD (-1)")
    void ofTwoRefusalsTheFirstNamed() {
        // BAD ahead of FULL, STATE, NONE
        inHouse("pane(1, 0, 0) = 5", "pane(1, 0, 0) ! -2", "pane(1, 256, 0) ! -1");
        inHouse("ends(0) ! -1", "minute() = 9", "ends(1) ! -4", "ends(0) ! -1", "ends(17) ! -1");
        inHouse("tour(256, 1) ! -1", "change(1, 4, 1) = 0", "change(2, 4, 1) = 0", "change(3, 4, 1) = 0", "change(4, 4, 1) = 0",
            "tour(0, 1) ! -3", "tour(256, 1) ! -1", "tour(-1, 1) ! -1");
        inHouse("ends(1) = 12", "play(4) ! -3", "play(5) ! -1", "ith(4, 0) ! -3", "ith(5, 0) ! -1", "ith(4, 4) ! -1");
    }

    @Remark("Terms: BAD (-1) there is no such thing, or a number is not as told")
    void noSuchThing() {
        inHouse("paneOf(5, 0) ! -1", "paneOf(-1, 0) ! -1", "paneOf(0, 10) ! -1", "paneOf(4, 0) ? 3");
        inHouse("paneOf(MAX, MAX) ! -1", "paneOf(MIN, MIN) ! -1");
    }

    @Remark("Terms: FULL (-2); NONE (-3); STATE (-4)")
    void numbersOfRefusals() {
        check(PaneScenes.BAD == -1, "BAD is not -1");
        check(PaneScenes.FULL == -2, "FULL is not -2");
        check(PaneScenes.NONE == -3, "NONE is not -3");
        check(PaneScenes.STATE == -4, "STATE is not -4");
        inHouse("pane(9, 0, 0) ! -1", "pane(1, 0, 0) = 5", "pane(1, 0, 0) ! -2", "trace(11) ! -3", "ends(1) = 12", "lot() ! -4");
    }

    @Remark("Terms: Sets are told by bits.")
    void setsAreBits() {
        run("pane(1, 0, 0) = 0", "pane(1, 0, 1) = 1", "pane(1, 0, 2) = 2", "pane(1, 0, 3) = 3", "pane(1, 0, 4) = 4", "pane(1, 0, 5) = 5",
            "state(4) ? 0", "change(0, 4, 1) = 0", "state(4) ? 1", "change(5, 4, 1) = 0", "state(4) ? 33", "companies(1) ? 30",
            "change(1, 4, 1) = 0", "change(2, 4, 1) = 0", "change(3, 4, 1) = 0", "change(4, 4, 1) = 0", "state(4) ? 63");
    }

    @Remark("Terms: Quotients are cut towards 0.")
    void quotientsAreCut() {
        // a third of FOG 2 is 0, of 5 it is 1, of 8 it is 2
        run("pane(1, 255, 0) = 0", "lord(0, 2) = 0", "paneOf(0, 5) ? 8", "lord(0, 5) = 2", "paneOf(0, 5) ? 7", "lord(0, 8) = 5", "paneOf(0, 5) ? 6");
    }

    // ---- Terms 1: minutes, news, fog, purse, wards

    @Remark("Terms 1: END is 1 to 16 (12 at first)")
    void endIsOneToSixteen() {
        run("state(1) ? 12", "ends(1) = 12", "state(1) ? 1", "ends(16) = 1", "state(1) ? 16", "ends(17) ! -1", "ends(0) ! -1", "state(1) ? 16");
    }

    @Remark("Terms 1: MINUTE: the one that comes (0 at first); from END on it is OVER.")
    void overFromEndOn() {
        run("ends(2) = 12", "state(0) ? 0", "state(3) ? 0", "minute() = 0", "state(0) ? 1", "state(3) ? 0", "minute() = 0", "state(0) ? 2",
            "state(3) ? 1", "minute() ! -4", "state(0) ? 2");
        run(with(times(12, "minute() = 0"), "state(3) ? 1", "minute() ! -4"));
        run(with(times(11, "minute() = 0"), "state(3) ? 0"));
    }

    @Remark("Terms 1: Each of MINUTES 0 to 15 has NEWS .. 4 at first.")
    void sixteenNews() {
        Run run = new Run("news(-1, 4) ! -1", "news(16, 4) ! -1");
        for (int m = 0; m <= 15; m++) {
            run.go("news(" + m + ", " + (15 - m) + ") = 4");
        }
        for (int m = 0; m <= 15; m++) {
            run.go("news(" + m + ", 0) = " + (15 - m));
        }
        take(run);
    }

    @Remark("Terms 1: 4 times its FORCE (0 to 3), and its WAY (0 thicker, 1 clearer, 2 nearer to 5, 3 none)")
    void forceAndWay() {
        // FOG 3 behind NEWS 0 to 15: FORCE 0, 1, 2, 3, each by the four WAYS
        int[] fogs = {3, 3, 3, 3, 4, 2, 4, 3, 5, 1, 5, 3, 6, 0, 5, 3};
        for (int news = 0; news < fogs.length; news++) {
            run("news(0, " + news + ") = 4", "lord(0, 3) = 0", "minute() = 0", "state(6) ? " + fogs[news]);
        }
        run("news(0, 15) = 4", "news(0, 16) ! -1", "news(0, -1) ! -1", "news(0, 0) = 15");
    }

    @Remark("Terms 1: FOG (0 to 9; 0 at first)")
    void fogBounds() {
        run("state(6) ? 0", "lord(0, 9) = 0", "lord(0, 10) ! -1", "state(6) ? 9", "lord(0, 0) = 9", "lord(0, -1) ! -1", "state(6) ? 0");
    }

    @Remark("Terms 1: the PURSE (0 to 999 pence; 60 at first)")
    void purseBounds() {
        run("state(7) ? 60", "lord(1, 999) = 60", "lord(1, 1000) ! -1", "state(7) ? 999", "lord(1, 0) = 999", "lord(1, -1) ! -1", "state(7) ? 0");
    }

    @Remark("Terms 1: WARDS 0 to 5 each have RAGS (0 to 9; 0 at first)")
    void ragsBounds() {
        for (int f = 0; f <= 5; f++) {
            run("wardOf(" + f + ", 0) ? 0", "ward(" + f + ", 0, 9) = 0", "ward(" + f + ", 0, 10) ! -1", "wardOf(" + f + ", 0) ? 9",
                "ward(" + f + ", 0, 0) = 9", "ward(" + f + ", 0, -1) ! -1", "wardOf(" + f + ", 0) ? 0");
        }
        run("ward(-1, 0, 0) ! -1", "ward(6, 0, 0) ! -1");
    }

    @Remark("Terms 1: BEAR so many looks (0 to 9; 3 at first)")
    void bearsBounds() {
        for (int f = 0; f <= 5; f++) {
            run("wardOf(" + f + ", 1) ? 3", "ward(" + f + ", 1, 9) = 3", "ward(" + f + ", 1, 10) ! -1", "wardOf(" + f + ", 1) ? 9",
                "ward(" + f + ", 1, 0) = 9", "ward(" + f + ", 1, -1) ! -1", "wardOf(" + f + ", 1) ? 0");
        }
        run("ward(-1, 1, 0) ! -1", "ward(6, 1, 0) ! -1");
    }

    @Remark("Terms 1: SCORE: what MINUTES were WORTH (0 at first).")
    void scoreOfAllMinutes() {
        // a lad's 8 lights and 5; none would show then; by an ACT 7 lights, less 1 in FOG 3
        run("pane(4, 255, 0) = 0", "state(2) ? 0", "minute() = 13", "state(2) ? 13", "minute() = 0", "state(2) ? 13", "on(16) ? 0",
            "sheet(0, 0, 1) = 1", "write(0, 0, 1) = 1", "goAll(0, 0, 1) = 6", "state(2) ? 19");
        // -1 becomes -1103502900, whose upper half, 48697, leaves 1 by 2
        run("pane(4, 255, 0) = 0", "seed(-1) = 1", "lot() = 13", "state(2) ? 13");
    }

    // ---- Terms 1: panes

    @Remark("Terms 1: PANES, 6 at most, numbered as they come")
    void sixPanes() {
        run("pane(1, 0, 0) = 0", "pane(2, 0, 0) = 1", "pane(3, 0, 0) = 2", "pane(4, 0, 0) = 3", "pane(5, 0, 0) = 4", "many(0) ? 5", "pane(1, 0, 0) = 5",
            "many(0) ? 6", "pane(1, 0, 0) ! -2", "many(0) ? 6", "paneOf(5, 0) ? 1", "paneOf(6, 0) ! -1");
    }

    @Remark("Terms 1: a SCENE (0 to 255: eight lights, by bits)")
    void sceneBounds() {
        run("pane(1, 0, 0) = 0", "pane(1, 255, 0) = 1", "pane(1, 256, 0) ! -1", "pane(1, -1, 0) ! -1", "paneOf(0, 1) ? 0", "paneOf(1, 1) ? 255",
            "paneOf(0, 5) ? 0", "paneOf(1, 5) ? 8", "change(0, 1, 128) = 0", "paneOf(0, 5) ? 1", "change(0, 1, 129) = 128", "paneOf(0, 5) ? 2");
    }

    @Remark("Terms 1: LOOKED at (0 to 9 times; 0 at first), SHOWN or not (at first).")
    void lookedAndShownAtFirst() {
        run("pane(1, 7, 0) = 0", "paneOf(0, 2) ? 0", "paneOf(0, 4) ? 0", "change(0, 2, 9) = 0", "change(0, 2, 10) ! -1", "paneOf(0, 2) ? 9",
            "change(0, 2, 0) = 9", "change(0, 2, -1) ! -1", "paneOf(0, 2) ? 0");
        // a PANE that comes where one was SHOWN and LOOKED at earlier is neither
        run("pane(1, 7, 0) = 0", "keep() = 1", "pane(1, 7, 0) = 1", "change(1, 4, 1) = 0", "change(1, 2, 5) = 0", "again() = 1", "state(4) ? 0",
            "pane(1, 7, 0) = 1", "paneOf(1, 2) ? 0", "paneOf(1, 4) ? 0", "state(4) ? 0");
    }

    @Remark("Terms 1: LOOKED at (0 to 9 times; 0 at first)")
    void lookedNineTimes() {
        // a WARD bears 9 looks at most, so the ninth is the last; a dark lad asks nothing
        run(with(new String[] {"pane(4, 0, 0) = 0", "ward(0, 1, 9) = 3", "sheet(0, 0, 1) = 1", "write(0, 0, 1) = 1"},
            with(times(9, "goAll(0, 0, 1) = 0"), "paneOf(0, 2) ? 9", "goAll(0, 0, 1) = 0", "paneOf(0, 2) ? 9")));
    }

    @Remark("Terms 1: a KIND, .. a WARD; LOOKED at")
    void aWardOfSix() {
        run("pane(1, 7, 0) = 0", "pane(1, 7, 5) = 1", "paneOf(0, 3) ? 0", "paneOf(1, 3) ? 5", "pane(1, 7, 6) ! -1", "pane(1, 7, -1) ! -1", "many(0) ? 2",
            "change(0, 3, 6) ! -1", "change(0, 3, -1) ! -1", "change(0, 3, 5) = 0");
    }

    @Remark("Terms 1: KINDS: 0 pane; 1 navvy, 2 sewer, 4 lad (under pane); 3 widow (under sewer); 5 dog (under lad).")
    void kindsUnderKinds() {
        // each is taken for itself and for those above it; none is a pane alone, and there is no KIND beyond 5
        run("pane(1, 0, 0) = 0", "shelf(0, 0, 0) = 1", "taken(0, 0) ? 0", "taken(0, 1) ? 0", "taken(0, 2) ! -13", "taken(0, 5) ! -13", "remake(0, 2) = 1", "taken(0, 0) ? 0",
            "taken(0, 2) ? 0", "taken(0, 3) ! -13", "remake(0, 3) = 2", "taken(0, 0) ? 0", "taken(0, 2) ? 0", "taken(0, 3) ? 0", "taken(0, 4) ! -13");
        run("pane(4, 0, 0) = 0", "shelf(0, 0, 0) = 1", "taken(0, 0) ? 0", "taken(0, 4) ? 0", "taken(0, 5) ! -13", "remake(0, 5) = 4", "taken(0, 0) ? 0", "taken(0, 4) ? 0",
            "taken(0, 5) ? 0", "taken(0, 3) ! -13", "taken(0, 2) ! -13", "taken(0, 1) ! -13", "remake(0, 0) ! -1", "remake(0, 6) ! -1", "pane(0, 0, 0) ! -1", "pane(6, 0, 0) ! -1");
    }

    // ---- Terms 1: scenes that go on

    @Remark("Terms 1: (a light that goes beyond place 7 comes to place 0, and the other way)")
    void lightsWrapAround() {
        // a navvy's go down, a sewer's are its own ^ those one up, a lad's go two up
        run("pane(1, 1, 0) = 0", "paneOf(0, 7) ? 128", "change(0, 1, 128) = 1", "paneOf(0, 7) ? 64", "change(0, 1, 129) = 128", "paneOf(0, 7) ? 192",
            "change(0, 1, 255) = 129", "paneOf(0, 7) ? 255", "change(0, 1, 0) = 255", "paneOf(0, 7) ? 0");
        run("pane(2, 128, 0) = 0", "paneOf(0, 7) ? 129", "change(0, 1, 64) = 128", "paneOf(0, 7) ? 192", "change(0, 1, 255) = 64", "paneOf(0, 7) ? 0",
            "change(0, 1, 1) = 255", "paneOf(0, 7) ? 3");
        run("pane(4, 64, 0) = 0", "paneOf(0, 7) ? 1", "change(0, 1, 128) = 64", "paneOf(0, 7) ? 2", "change(0, 1, 32) = 128", "paneOf(0, 7) ? 128",
            "change(0, 1, 193) = 32", "paneOf(0, 7) ? 7");
    }

    @Remark("Terms 1: navvy: each one place down.")
    void navvyGoesRound() {
        run("pane(1, 4, 0) = 0", "ends(9) = 12", "minute() = 0", "paneOf(0, 1) ? 2", "minute() = 0", "paneOf(0, 1) ? 1", "minute() = 0", "paneOf(0, 1) ? 128",
            "minute() = 0", "minute() = 0", "minute() = 0", "minute() = 0", "minute() = 0", "paneOf(0, 1) ? 4");
    }

    @Remark("Terms 1: pane: each light one place up.")
    void paneGoesUpBySewer() {
        // there is no PANE of KIND pane; a sewer's SCENE behind a MINUTE, ^ what it was, is a pane's, place by place and round
        for (int place = 0; place < 8; place++) {
            int light = 1 << place;
            int up = place == 7 ? 1 : 2 * light;
            run("pane(2, " + light + ", 0) = 0", "paneOf(0, 7) ? " + (light ^ up), "change(0, 1, " + (255 - light) + ") = " + light, "paneOf(0, 7) ? " + (light ^ up));
        }
    }

    @Remark("Terms 1: sewer: s ^ what it is of a pane.")
    void sewerGoesDark() {
        // 1 has all lights behind seven MINUTES and none behind eight; dark and full ones are dark
        int[] scenes = {3, 5, 15, 17, 51, 85, 255, 0, 0};
        Run run = new Run("pane(2, 1, 0) = 0", "change(0, 4, 1) = 0");
        for (int scene : scenes) {
            run.go("minute() = 0", "paneOf(0, 1) ? " + scene);
        }
        take(run);
    }

    @Remark("Terms 1: lad: each two places up.")
    void ladGoesRound() {
        run("pane(4, 1, 0) = 0", "minute() = 0", "paneOf(0, 1) ? 4", "minute() = 0", "paneOf(0, 1) ? 16", "minute() = 0", "paneOf(0, 1) ? 64", "minute() = 0", "paneOf(0, 1) ? 1");
        run("pane(4, 2, 0) = 0", "minute() = 0", "paneOf(0, 1) ? 8", "minute() = 0", "paneOf(0, 1) ? 32", "minute() = 0", "paneOf(0, 1) ? 128", "minute() = 0", "paneOf(0, 1) ? 2");
    }

    @Remark("Terms 1: widow: as sewer, but the other lights (255 less that) in odd MINUTES.")
    void widowInOddMinutes() {
        Run run = new Run("pane(3, 0, 0) = 0", "ends(16) = 12");
        for (int m = 0; m <= 15; m++) {
            boolean odd = m % 2 == 1;
            run.go("change(0, 1, 128) = " + run.call("paneOf(0, 1)"), "paneOf(0, 7) ? " + (odd ? 126 : 129), "change(0, 1, 0) = 128",
                "paneOf(0, 7) ? " + (odd ? 255 : 0), "sheet(0, 0, 1) = 1", "goAll(0, 0, 1) = 0", "paneOf(0, 1) = " + (odd ? 255 : 0));
        }
        // MINUTE 16, when it is OVER
        run.go("state(0) ? 16", "change(0, 1, 0) = 255", "paneOf(0, 7) ? 0");
        take(run);
    }

    @Remark("Terms 1: dog: as lad; in MINUTES that leave 2 by 3 that ^ 15.")
    void dogInThirdMinutes() {
        Run run = new Run("pane(5, 0, 0) = 0", "ends(16) = 12");
        for (int m = 0; m <= 15; m++) {
            boolean third = m == 2 || m == 5 || m == 8 || m == 11 || m == 14;
            run.go("change(0, 1, 64) = " + run.call("paneOf(0, 1)"), "paneOf(0, 7) ? " + (third ? 14 : 1), "change(0, 1, 0) = 64",
                "paneOf(0, 7) ? " + (third ? 15 : 0), "sheet(0, 0, 1) = 1", "goAll(0, 0, 1) = 0", "paneOf(0, 1) = " + (third ? 15 : 0));
        }
        run.go("state(0) ? 16", "change(0, 1, 0) = 0", "paneOf(0, 7) ? 0");
        take(run);
    }

    // ---- Terms 1: what is asked, lights, open, would show

    /** What PANE number asks, being of a KIND, for 0, 1, .. 8 lights. */
    private void asks(int kind, int number, int... pence) {
        Run run = new Run();
        for (int k = 0; k <= number; k++) {
            run.go("pane(" + kind + ", 0, 0) = " + k);
        }
        for (int lights = 0; lights < pence.length; lights++) {
            run.call("change(" + number + ", 1, " + ((1 << lights) - 1) + ")");
            run.go("paneOf(" + number + ", 5) = " + lights, "paneOf(" + number + ", 6) ? " + pence[lights]);
        }
        take(run);
    }

    @Remark("Terms 1: ASKS (pence, for so many LIGHTS): pane: 1 for each. navvy: 2 for each.")
    void navvyAsks() {
        asks(1, 0, 0, 2, 4, 6, 8, 10, 12, 14, 16);
        asks(1, 5, 0, 2, 4, 6, 8, 10, 12, 14, 16);
    }

    @Remark("Terms 1: sewer: as a pane, and its number.")
    void sewerAsks() {
        asks(2, 0, 0, 1, 2, 3, 4, 5, 6, 7, 8);
        asks(2, 5, 5, 6, 7, 8, 9, 10, 11, 12, 13);
    }

    @Remark("Terms 1: widow: twice as sewer.")
    void widowAsks() {
        asks(3, 0, 0, 2, 4, 6, 8, 10, 12, 14, 16);
        asks(3, 5, 10, 12, 14, 16, 18, 20, 22, 24, 26);
    }

    @Remark("Terms 1: lad: as a pane, 3 at most.")
    void ladAsks() {
        asks(4, 0, 0, 1, 2, 3, 3, 3, 3, 3, 3);
        asks(4, 5, 0, 1, 2, 3, 3, 3, 3, 3, 3);
    }

    @Remark("Terms 1: dog: as lad, and 1.")
    void dogAsks() {
        asks(5, 0, 1, 2, 3, 4, 4, 4, 4, 4, 4);
        asks(5, 5, 1, 2, 3, 4, 4, 4, 4, 4, 4);
    }

    @Remark("Terms 1: LIGHTS of a PANE: those in its SCENE, less RAGS of its WARD, and a third (cut) of FOG (0 at least).")
    void lightsLessRagsAndFog() {
        Run fog = new Run("pane(1, 255, 5) = 0");
        int[] byFog = {8, 8, 8, 7, 7, 7, 6, 6, 6, 5};
        for (int v = 0; v <= 9; v++) {
            fog.call("lord(0, " + v + ")");
            fog.go("paneOf(0, 5) ? " + byFog[v]);
        }
        take(fog);
        Run rags = new Run("pane(1, 255, 5) = 0");
        int[] byRags = {8, 7, 6, 5, 4, 3, 2, 1, 0, 0};
        for (int v = 0; v <= 9; v++) {
            rags.call("ward(5, 0, " + v + ")");
            rags.go("paneOf(0, 5) ? " + byRags[v]);
        }
        take(rags);
        // both together: just 1, just 0, below; rags of another WARD count nothing
        run("pane(1, 255, 5) = 0", "lord(0, 9) = 0", "ward(5, 0, 4) = 0", "paneOf(0, 5) ? 1", "ward(5, 0, 5) = 4", "paneOf(0, 5) ? 0", "ward(5, 0, 6) = 5",
            "paneOf(0, 5) ? 0", "paneOf(0, 6) ? 0", "ward(5, 0, 0) = 6", "ward(4, 0, 9) = 0", "paneOf(0, 5) ? 5");
    }

    @Remark("Terms 1: It is OPEN, if it was LOOKED at less often than its WARD BEARS")
    void openByLooks() {
        run("pane(1, 7, 5) = 0", "change(0, 2, 2) = 0", "paneOf(0, 9) ? 1", "change(0, 2, 3) = 2", "paneOf(0, 9) ? 0", "change(0, 2, 4) = 3", "paneOf(0, 9) ? 0",
            "ward(5, 1, 9) = 3", "change(0, 2, 8) = 4", "paneOf(0, 9) ? 1", "change(0, 2, 9) = 8", "paneOf(0, 9) ? 0", "change(0, 2, 0) = 9",
            "ward(5, 1, 1) = 9", "paneOf(0, 9) ? 1", "ward(5, 1, 0) = 1", "paneOf(0, 9) ? 0", "ward(4, 1, 9) = 3", "paneOf(0, 9) ? 0");
    }

    @Remark("Terms 1: and the PURSE is as much as it ASKS for its LIGHTS, or more.")
    void openByPence() {
        run("pane(1, 7, 0) = 0", "lord(1, 7) = 60", "paneOf(0, 9) ? 1", "lord(1, 6) = 7", "paneOf(0, 9) ? 1", "lord(1, 5) = 6", "paneOf(0, 9) ? 0",
            "change(0, 1, 0) = 7", "lord(1, 0) = 5", "paneOf(0, 9) ? 1", "remake(0, 5) = 1", "paneOf(0, 9) ? 0", "lord(1, 1) = 0", "paneOf(0, 9) ? 1");
        // for its LIGHTS, not for those in its SCENE: 3 less 2 rags
        run("pane(1, 7, 0) = 0", "ward(0, 0, 2) = 0", "lord(1, 2) = 60", "paneOf(0, 9) ? 1", "lord(1, 1) = 2", "paneOf(0, 9) ? 0");
    }

    @Remark("Terms 1: It WOULD show, if it is not SHOWN, has 3 LIGHTS or more, and is OPEN.")
    void wouldShow() {
        // a MINUTE tells the least PANE that would: 3 LIGHTS do, 2 don't
        run("pane(1, 7, 0) = 0", "on(1) ? 8", "change(0, 1, 3) = 7", "on(1) ? 0", "change(0, 1, 15) = 3", "on(1) ? 9", "ward(0, 0, 1) = 0", "on(1) ? 8",
            "ward(0, 0, 2) = 1", "on(1) ? 0");
        run("pane(1, 7, 0) = 0", "change(0, 4, 1) = 0", "on(1) ? 0", "change(0, 4, 0) = 1", "on(1) ? 8");
        run("pane(1, 7, 0) = 0", "lord(1, 6) = 60", "on(1) ? 8", "lord(1, 5) = 6", "on(1) ? 0");
        run("pane(1, 7, 0) = 0", "change(0, 2, 2) = 0", "on(1) ? 8", "change(0, 2, 3) = 2", "on(1) ? 0");
    }

    // ---- Terms 1: a minute goes by

    /** FOG behind a MINUTE with NEWS. */
    private void fogs(int news, int from, int to) {
        run("lord(0, " + from + ") = 0", "news(0, " + news + ") = 4", "minute() = 0", "state(6) ? " + to);
    }

    @Remark("Terms 1: (1) by its NEWS FOG is more, less by FORCE (0 to 9 held)")
    void fogIsHeld() {
        fogs(12, 5, 8);
        fogs(12, 6, 9);
        fogs(12, 7, 9);
        fogs(12, 9, 9);
        fogs(4, 8, 9);
        fogs(4, 9, 9);
        fogs(13, 4, 1);
        fogs(13, 3, 0);
        fogs(13, 2, 0);
        fogs(13, 0, 0);
        fogs(5, 1, 0);
        fogs(5, 0, 0);
    }

    @Remark("Terms 1: or nearer to 5 by FORCE, not beyond.")
    void fogNotBeyondFive() {
        fogs(14, 1, 4);
        fogs(14, 2, 5);
        fogs(14, 3, 5);
        fogs(14, 4, 5);
        fogs(14, 5, 5);
        fogs(14, 6, 5);
        fogs(14, 7, 5);
        fogs(14, 8, 5);
        fogs(14, 9, 6);
        fogs(2, 4, 4);
        fogs(2, 6, 6);
    }

    @Remark("Terms 1: (2) If a PANE is told, it is done by as its WILL is: look (if no RULE tells), pass, or rag")
    void lookIfNoRuleTells() {
        run("pane(1, 7, 0) = 0", "paneOf(0, 8) ? 0", "on(1) ? 8", "tape lad pass;", "rules() = 1", "paneOf(0, 8) ? 0", "on(1) ? 8",
            "tape navvy if 1=2 pass;", "rules() = 1", "paneOf(0, 8) ? 0", "on(1) ? 8", "tape navvy pass;", "rules() = 1", "paneOf(0, 8) ? 1", "on(1) ? 0",
            "tape navvy rag;", "rules() = 1", "paneOf(0, 8) ? 2", "on(1) ? 0");
        // none is told: nothing is done, the MINUTE goes by
        run("pane(1, 7, 0) = 0", "sheet(0, 0, 1) = 1", "goAll(0, 0, 1) = 0", "paneOf(0, 2) ? 0", "state(0) ? 1");
    }

    @Remark("Terms 1: the first of THE RULES whose KIND is its or above it, and whose condition holds, tells it.")
    void theFirstRuleThatHolds() {
        String[] kinds = {"pane(1, 7, 0) = 0", "pane(2, 7, 0) = 1", "pane(3, 7, 0) = 2", "pane(4, 7, 0) = 3", "pane(5, 7, 0) = 4"};
        // of each KIND, who is it or under it
        run(with(kinds, "tape pane rag;", "rules() = 1", "paneOf(0, 8) ? 2", "paneOf(1, 8) ? 2", "paneOf(2, 8) ? 2", "paneOf(3, 8) ? 2", "paneOf(4, 8) ? 2"));
        run(with(kinds, "tape navvy rag;", "rules() = 1", "paneOf(0, 8) ? 2", "paneOf(1, 8) ? 0", "paneOf(2, 8) ? 0", "paneOf(3, 8) ? 0", "paneOf(4, 8) ? 0"));
        run(with(kinds, "tape sewer rag;", "rules() = 1", "paneOf(0, 8) ? 0", "paneOf(1, 8) ? 2", "paneOf(2, 8) ? 2", "paneOf(3, 8) ? 0", "paneOf(4, 8) ? 0"));
        run(with(kinds, "tape widow rag;", "rules() = 1", "paneOf(0, 8) ? 0", "paneOf(1, 8) ? 0", "paneOf(2, 8) ? 2", "paneOf(3, 8) ? 0", "paneOf(4, 8) ? 0"));
        run(with(kinds, "tape lad rag;", "rules() = 1", "paneOf(0, 8) ? 0", "paneOf(1, 8) ? 0", "paneOf(2, 8) ? 0", "paneOf(3, 8) ? 2", "paneOf(4, 8) ? 2"));
        run(with(kinds, "tape dog rag;", "rules() = 1", "paneOf(0, 8) ? 0", "paneOf(1, 8) ? 0", "paneOf(2, 8) ? 0", "paneOf(3, 8) ? 0", "paneOf(4, 8) ? 2"));
        // the first one, not the nearest KIND; one that doesn't hold is passed over, the eighth still tells
        run(with(kinds, "tape sewer pass; widow rag;", "rules() = 2", "paneOf(2, 8) ? 1"));
        run(with(kinds, "tape dog rag;lad if 1>2 pass;lad if 2=3 rag;dog pass;lad if 3<1 rag;lad if 4=3 rag;lad if 4<3 rag;lad pass;", "rules() = 8",
            "paneOf(3, 8) ? 1", "paneOf(4, 8) ? 2"));
    }

    @Remark("Terms 1: look: if it is OPEN, the PURSE is less by what it ASKS, it was LOOKED at once more, the lowest light of its SCENE (if any) is out")
    void aLookAndNoLook() {
        String[] one = {"pane(1, 7, 0) = 0", "sheet(0, 0, 1) = 1", "write(0, 0, 1) = 1"};
        // by the last penny: 7 less its lowest light, one down
        run(with(one, "lord(1, 6) = 60", "goAll(0, 0, 1) = 8", "state(7) ? 0", "paneOf(0, 2) ? 1", "paneOf(0, 1) ? 3"));
        run(with(one, "lord(1, 5) = 60", "goAll(0, 0, 1) = 0", "state(7) ? 5", "paneOf(0, 2) ? 0", "paneOf(0, 1) ? 131", "state(4) ? 0"));
        run(with(one, "change(0, 2, 2) = 0", "goAll(0, 0, 1) = 8", "paneOf(0, 2) ? 3", "state(7) ? 54"));
        run(with(one, "change(0, 2, 3) = 0", "goAll(0, 0, 1) = 0", "paneOf(0, 2) ? 3", "state(7) ? 60", "paneOf(0, 1) ? 131"));
        // no light at all; the last one; the highest one
        run(with(one, "change(0, 1, 0) = 7", "goAll(0, 0, 1) = 0", "paneOf(0, 2) ? 1", "paneOf(0, 1) ? 0", "state(7) ? 60"));
        run(with(one, "change(0, 1, 128) = 7", "goAll(0, 0, 1) = 1", "paneOf(0, 2) ? 1", "paneOf(0, 1) ? 0", "state(7) ? 58"));
        run(with(one, "change(0, 1, 136) = 7", "goAll(0, 0, 1) = 2", "paneOf(0, 1) ? 64"));
    }

    @Remark("Terms 1: that is WORTH its LIGHTS as they were; with 3 or more of these 5 more, if it was not SHOWN; it is SHOWN then.")
    void worthAndShown() {
        String[] one = {"pane(1, 7, 0) = 0", "sheet(0, 0, 1) = 1", "write(0, 0, 1) = 1"};
        run(with(one, "goAll(0, 0, 1) = 8", "state(4) ? 1"));
        run(with(one, "change(0, 1, 3) = 7", "goAll(0, 0, 1) = 2", "state(4) ? 0"));
        run(with(one, "change(0, 1, 255) = 7", "goAll(0, 0, 1) = 13", "state(4) ? 1"));
        // SHOWN ones are WORTH their LIGHTS alone, and stay SHOWN with fewer than 3
        run(with(one, "change(0, 4, 1) = 0", "goAll(0, 0, 1) = 3", "state(4) ? 1", "goAll(0, 0, 1) = 2", "state(4) ? 1"));
        // LIGHTS count, not those in the SCENE: 4 less 1 rag, less 2 rags
        run(with(one, "change(0, 1, 15) = 7", "ward(0, 0, 1) = 0", "goAll(0, 0, 1) = 8", "state(4) ? 1"));
        run(with(one, "change(0, 1, 15) = 7", "ward(0, 0, 2) = 0", "goAll(0, 0, 1) = 2", "state(4) ? 0"));
        // as they are behind (1): FOG 2 becomes 3
        run(with(one, "lord(0, 2) = 0", "goAll(0, 0, 1) = 2", "state(4) ? 0"));
        run(with(one, "lord(0, 1) = 0", "goAll(0, 0, 1) = 8", "state(4) ? 1"));
    }

    @Remark("Terms 1: pass: nothing.")
    void passIsNothing() {
        // but that the MINUTE goes by as if none were told
        String[] one = {"pane(1, 7, 0) = 0", "tape pane pass;", "rules() = 1", "sheet(0, 0, 2) = 1", "write(0, 1, 1) = 1"};
        alike(with(one, "goAll(0, 1, 1) = 0"), with(one, "goAll(0, 0, 1) = 0"));
    }

    @Remark("Terms 1: rag: RAGS of its WARD are 1 more (9 held).")
    void ragsAreHeld() {
        run("pane(1, 7, 4) = 0", "tape pane rag;", "rules() = 1", "sheet(0, 0, 1) = 1", "write(0, 0, 1) = 1", "goAll(0, 0, 1) = 0", "wardOf(4, 0) ? 1",
            "wardOf(3, 0) ? 0", "paneOf(0, 2) ? 0", "state(7) ? 60", "ward(4, 0, 8) = 1", "goAll(0, 0, 1) = 0", "wardOf(4, 0) ? 9", "goAll(0, 0, 1) = 0",
            "wardOf(4, 0) ? 9");
        // one that isn't OPEN is ragged all the same
        run("pane(1, 7, 4) = 0", "tape pane rag;", "rules() = 1", "lord(1, 0) = 60", "ward(4, 1, 0) = 3", "sheet(0, 0, 1) = 1", "write(0, 0, 1) = 1",
            "goAll(0, 0, 1) = 0", "wardOf(4, 0) ? 1");
    }

    @Remark("Terms 1: (3) All SCENES go on. MINUTE is 1 more.")
    void allScenesGoOn() {
        // told, SHOWN, neither; 7 less its lowest light is 6
        run("pane(1, 7, 0) = 0", "pane(1, 7, 1) = 1", "pane(4, 7, 2) = 2", "pane(2, 7, 2) = 3", "pane(3, 7, 2) = 4", "pane(5, 7, 2) = 5", "change(1, 4, 1) = 0",
            "minute() = 8", "paneOf(0, 1) ? 3", "paneOf(1, 1) ? 131", "paneOf(2, 1) ? 28", "paneOf(3, 1) ? 9", "paneOf(4, 1) ? 9", "paneOf(5, 1) ? 28",
            "state(0) ? 1");
        run("minute() = 0", "state(0) ? 1");
    }

    // ---- Promises 1 to 12

    @Remark("Promise 1: No PANES, RULES, REPORTS; nothing is kept.")
    void aNewObject() {
        run("many(0) ? 0", "many(1) ? 0", "many(3) ? 0", "again() ! -3", "paneOf(0, 0) ! -1", "companies(-1) ? 0", "who(0) ? 1280", "liar() ! -3");
        run("pane(1, 0, 0) = 0", "many(0) ? 1", "tape dog rag;", "rules() = 1", "many(1) ? 1", "report(0, 0, 0, 0) = 0", "many(3) ? 1", "again() ! -3",
            "keep() = 1", "again() = 1");
    }

    @Remark("Promise 2: A PANE of a KIND 1 to 5: its number.")
    void paneOfKinds() {
        inHouse("pane(0, 9, 0) ! -1", "pane(6, 9, 0) ! -1", "pane(-1, 9, 0) ! -1", "pane(MAX, 9, 0) ! -1", "pane(MIN, 9, 0) ! -1");
        run("pane(1, 9, 0) = 0", "pane(5, 9, 0) = 1", "paneOf(0, 0) ? 1", "paneOf(1, 0) ? 5");
    }

    @Remark("Promise 2: BAD; FULL.")
    void paneBadOrFull() {
        inHouse("pane(1, -1, 0) ! -1", "pane(1, 256, 0) ! -1", "pane(1, 9, -1) ! -1", "pane(1, 9, 6) ! -1", "pane(1, MAX, 0) ! -1", "pane(1, 9, MIN) ! -1",
            "pane(1, 255, 5) = 5", "pane(1, 0, 0) ! -2", "pane(6, 0, 0) ! -1", "pane(1, 256, 0) ! -1", "pane(1, 0, 6) ! -1");
        run("pane(1, 0, 0) = 0", "pane(1, 255, 5) = 1", "paneOf(1, 1) ? 255", "paneOf(1, 3) ? 5");
    }

    @Remark("Promise 3: Of a PANE: what = 0 KIND, 1 SCENE, 2 how often it was LOOKED at, 3 WARD")
    void paneOfFirstAndLast() {
        String[] six = {"pane(5, 255, 5) = 0", "pane(1, 1, 1) = 1", "pane(1, 1, 1) = 2", "pane(1, 1, 1) = 3", "pane(1, 1, 1) = 4", "pane(1, 0, 0) = 5"};
        run(with(six, "change(0, 2, 9) = 0", "paneOf(0, 0) ? 5", "paneOf(0, 1) ? 255", "paneOf(0, 2) ? 9", "paneOf(0, 3) ? 5", "paneOf(5, 0) ? 1", "paneOf(5, 1) ? 0",
            "paneOf(5, 2) ? 0", "paneOf(5, 3) ? 0", "paneOf(6, 0) ! -1", "paneOf(0, -1) ! -1"));
    }

    @Remark("Promise 3: 5 LIGHTS, 6 what it ASKS for these")
    void paneOfLightsAndAsks() {
        // for its LIGHTS, not for those in its SCENE: none are left of eight
        run("pane(1, 255, 0) = 0", "paneOf(0, 5) ? 8", "paneOf(0, 6) ? 16", "ward(0, 0, 7) = 0", "paneOf(0, 5) ? 1", "paneOf(0, 6) ? 2", "lord(0, 3) = 0", "paneOf(0, 5) ? 0",
            "paneOf(0, 6) ? 0", "lord(0, 9) = 3", "paneOf(0, 5) ? 0", "paneOf(0, 6) ? 0");
    }

    @Remark("Promise 3: 4 1 if it is SHOWN, else 0")
    void paneOfShown() {
        run("pane(1, 7, 0) = 0", "pane(1, 7, 1) = 1", "change(1, 4, 1) = 0", "paneOf(0, 4) ? 0", "paneOf(1, 4) ? 1");
    }

    @Remark("Promise 3: 7 its SCENE behind MINUTE, 8 WILL as all is now (0 look, 1 pass, 2 rag)")
    void paneOfNextSceneAndWill() {
        // now: MINUTE 0, FOG 0; NEWS of the MINUTE count nothing yet; when it is OVER both can still be asked
        run("pane(3, 1, 0) = 0", "tape pane if minute=0 and fog=0 rag; pane if fog=1 pass;", "rules() = 2", "paneOf(0, 7) ? 3", "paneOf(0, 8) ? 2", "ends(1) = 12",
            "minute() = 0", "paneOf(0, 1) ? 3", "state(3) ? 1", "paneOf(0, 7) ? 250", "paneOf(0, 8) ? 1", "lord(0, 2) = 1", "paneOf(0, 8) ? 0");
    }

    @Remark("Promise 3: 9 1 if it is OPEN, else 0. BAD.")
    void paneOfBad() {
        inHouse("paneOf(4, 9) ? 1", "paneOf(5, 9) ! -1", "paneOf(0, 10) ! -1", "paneOf(0, -1) ! -1", "paneOf(-1, 9) ! -1", "paneOf(6, 9) ! -1",
            "paneOf(MAX, 0) ! -1", "paneOf(0, MIN) ! -1", "ward(1, 1, 0) = 5", "paneOf(4, 9) ? 0");
        run("paneOf(0, 0) ! -1");
    }

    @Remark("Promise 4: SCENE (what 1), how often it was LOOKED at (2), WARD (3), SHOWN (4: 0, 1) of a PANE becomes v: what it was.")
    void changeBounds() {
        inHouse("change(4, 1, 0) = 238", "change(4, 1, 255) = 0", "change(4, 1, 256) ! -1", "change(4, 1, -1) ! -1", "paneOf(4, 1) ? 255");
        inHouse("change(4, 2, 9) = 0", "change(4, 2, 10) ! -1", "change(4, 2, -1) ! -1", "paneOf(4, 2) ? 9", "change(4, 2, 0) = 9");
        inHouse("change(4, 3, 5) = 1", "change(4, 3, 6) ! -1", "change(4, 3, -1) ! -1", "paneOf(4, 3) ? 5", "change(4, 3, 0) = 5");
        inHouse("change(4, 4, 1) = 0", "change(4, 4, 2) ! -1", "change(4, 4, -1) ! -1", "paneOf(4, 4) ? 1", "state(4) ? 17", "change(4, 4, 0) = 1", "state(4) ? 1");
    }

    @Remark("Promise 4: BAD.")
    void changeBad() {
        inHouse("change(5, 1, 1) ! -1", "change(-1, 1, 1) ! -1", "change(0, 0, 1) ! -1", "change(0, 5, 1) ! -1", "change(0, -1, 1) ! -1",
            "change(MAX, 1, 1) ! -1", "change(MIN, 1, 1) ! -1", "change(0, MAX, 0) ! -1", "change(0, 1, MIN) ! -1");
    }

    @Remark("Promise 5: A PANE becomes one of another KIND (1 to 5): the KIND that it was. BAD.")
    void remakeBounds() {
        inHouse("remake(0, 0) ! -1", "remake(0, 6) ! -1", "remake(-1, 1) ! -1", "remake(5, 1) ! -1", "remake(MIN, MAX) ! -1", "remake(0, 5) = 1",
            "paneOf(0, 0) ? 5", "remake(0, 1) = 5", "paneOf(0, 0) ? 1", "remake(4, 2) = 3");
        // the KIND that it has already is none of the numbers that are refused (a reading: NOTES.md)
        inHouse("remake(4, 3) = 3", "paneOf(4, 0) ? 3");
        // what is not its KIND stays
        alike(with(HOUSE, "remake(4, 5) = 3", "remake(4, 3) = 5"), HOUSE);
    }

    @Remark("Promise 6: NEWS of a MINUTE (0 to 15) become v (0 to 15): what they were. BAD.")
    void newsBounds() {
        inHouse("news(-1, 0) ! -1", "news(16, 0) ! -1", "news(0, -1) ! -1", "news(0, 16) ! -1", "news(MAX, 0) ! -1", "news(MIN, 0) ! -1", "news(0, MAX) ! -1",
            "news(0, 0) = 4", "news(0, 15) = 0", "news(15, 0) = 6", "news(15, 15) = 0", "news(15, 1) = 15", "news(0, 1) = 15");
    }

    @Remark("Promise 6: NEWS of a MINUTE (0 to 15)")
    void newsOfTheLastMinute() {
        // MINUTE 15 brings its own: FOG 9 by then, 3 clearer
        run(with(new String[] {"ends(16) = 12", "news(15, 13) = 4"}, with(times(15, "minute() = 0"), "state(6) ? 9", "state(5) ? 13", "minute() = 0", "state(6) ? 6")));
    }

    @Remark("Promise 7: RAGS of a WARD (what 0), what it BEARS (1) becomes v: what it was. BAD.")
    void wardBounds() {
        inHouse("ward(-1, 0, 0) ! -1", "ward(6, 0, 0) ! -1", "ward(-1, 1, 0) ! -1", "ward(6, 1, 0) ! -1", "ward(0, -1, 0) ! -1", "ward(0, 2, 0) ! -1",
            "ward(0, 0, -1) ! -1", "ward(0, 0, 10) ! -1", "ward(1, 1, -1) ! -1", "ward(1, 1, 10) ! -1", "ward(MAX, 0, 0) ! -1", "ward(0, MIN, 0) ! -1");
        inHouse("ward(0, 0, 0) = 1", "ward(0, 0, 9) = 0", "ward(5, 0, 9) = 0", "ward(5, 0, 0) = 9", "ward(1, 1, 9) = 5", "ward(1, 1, 0) = 9", "ward(5, 1, 0) = 3",
            "ward(5, 1, 9) = 0");
    }

    @Remark("Promise 8: Of a WARD: what = 0 RAGS, 1 what it BEARS. BAD.")
    void wardOfBounds() {
        inHouse("wardOf(0, 0) ? 1", "wardOf(1, 1) ? 5", "wardOf(5, 0) ? 0", "wardOf(5, 1) ? 3", "wardOf(-1, 0) ! -1", "wardOf(6, 0) ! -1", "wardOf(6, 1) ! -1",
            "wardOf(0, -1) ! -1", "wardOf(0, 2) ! -1", "wardOf(MAX, 0) ! -1", "wardOf(MIN, 1) ! -1", "wardOf(0, MAX) ! -1");
    }

    @Remark("Promise 9: FOG (what 0), the PURSE (1) becomes v: what it was. BAD.")
    void lordBounds() {
        inHouse("lord(0, -1) ! -1", "lord(0, 10) ! -1", "lord(1, -1) ! -1", "lord(1, 1000) ! -1", "lord(-1, 0) ! -1", "lord(2, 0) ! -1", "lord(0, MAX) ! -1",
            "lord(1, MIN) ! -1", "lord(MIN, 0) ! -1", "lord(0, 9) = 1", "lord(0, 0) = 9", "lord(1, 10) = 54", "lord(1, 999) = 10", "lord(1, 0) = 999",
            "state(6) ? 0", "state(7) ? 0");
    }

    @Remark("Promise 10: END becomes v: what it was. BAD; STATE: v is below MINUTE.")
    void endsBounds() {
        inHouse("ends(0) ! -1", "ends(17) ! -1", "ends(-1) ! -1", "ends(MAX) ! -1", "ends(MIN) ! -1", "minute() = 9", "minute() = 0", "state(0) ? 3",
            "ends(2) ! -4", "ends(1) ! -4", "ends(3) = 12", "state(3) ? 1", "ends(4) = 3", "state(3) ? 0", "ends(16) = 4", "ends(1) ! -4");
        run(with(new String[] {"ends(16) = 12"}, with(times(16, "minute() = 0"), "ends(15) ! -4", "ends(16) = 16", "ends(17) ! -1")));
        run("ends(1) = 12", "state(3) ? 0");
    }

    @Remark("Promise 11: MINUTE is 0 again, SCORE 0, FOG 0, the PURSE 60, no PANE was LOOKED at, SHOWN (SCENES, RAGS stay): what MINUTE was.")
    void anewOfAll() {
        run("ward(1, 0, 2) = 0", "pane(4, 255, 0) = 0", "pane(4, 1, 1) = 1", "minute() = 13", "minute() = 0", "change(1, 2, 9) = 0", "change(1, 4, 1) = 0",
            "state(6) ? 2", "state(7) ? 57", "anew() = 2", "state(0) ? 0", "state(2) ? 0", "state(6) ? 0", "state(7) ? 60", "state(4) ? 0", "paneOf(0, 2) ? 0",
            "paneOf(1, 2) ? 0", "paneOf(0, 1) ? 239", "paneOf(1, 1) ? 16", "wardOf(1, 0) ? 2", "anew() = 0");
        // from OVER; END, NEWS, z, RULES, REPORTS and what the WARDS BEAR stay, too
        alike(with(HOUSE, "ends(1) = 12", "state(3) ? 1", "anew() = 1", "state(3) ? 0", "state(1) ? 1", "ends(12) = 1"),
            with(HOUSE, "anew() = 1"));
        alike(with(HOUSE, "anew() = 1", "anew() = 0"), with(HOUSE, "anew() = 1"));
        run(with(HOUSE, "anew() = 1", "many(0) ? 5", "many(1) ? 2", "many(3) ? 3", "many(4) ? 2", "news(1, 9) = 9", "seed(5) = 5", "wardOf(1, 1) ? 5",
            "wardOf(0, 0) ? 1", "item(0, 0, 3) ? 4", "taken(3, 3) ? 4"));
    }

    @Remark("Promise 12: What = 0 MINUTE, 1 END, 2 SCORE")
    void stateAtFirstAndLast() {
        run("state(0) ? 0", "state(1) ? 12", "state(2) ? 0", "state(-1) ! -1");
        run(with(new String[] {"pane(4, 255, 0) = 0", "ends(16) = 12", "minute() = 13"}, with(times(15, "minute() = 0"), "state(0) ? 16", "state(1) ? 16", "state(2) ? 13")));
    }

    @Remark("Promise 12: 4 PANES that are SHOWN, as a set")
    void stateOfNoneToAllShown() {
        String[] six = {"pane(1, 0, 0) = 0", "pane(1, 0, 0) = 1", "pane(1, 0, 0) = 2", "pane(1, 0, 0) = 3", "pane(1, 0, 0) = 4", "pane(1, 0, 0) = 5", "state(4) ? 0"};
        Run run = new Run(six);
        for (int k = 5; k >= 0; k--) {
            run.go("change(" + k + ", 4, 1) = 0", "state(4) ? " + (64 - (1 << k)));
        }
        take(run.go("change(3, 4, 0) = 1", "state(4) ? 55"));
    }

    @Remark("Promise 12: 3 1 if it is OVER, else 0")
    void stateOver() {
        run("ends(1) = 12", "state(3) ? 0", "minute() = 0", "state(3) ? 1", "ends(2) = 1", "state(3) ? 0");
    }

    @Remark("Promise 12: 5 NEWS of MINUTE (0 behind MINUTE 15)")
    void stateNewsBehindFifteen() {
        run(with(new String[] {"ends(16) = 12", "news(15, 3) = 4", "news(0, 7) = 4", "state(5) ? 7"},
            with(times(15, "minute() = 0"), "state(0) ? 15", "state(5) ? 3", "minute() = 0", "state(0) ? 16", "state(5) ? 0")));
        // OVER, but not behind MINUTE 15
        run("ends(1) = 12", "news(1, 9) = 4", "minute() = 0", "state(3) ? 1", "state(5) ? 9");
    }

    @Remark("Promise 12: 6 FOG, 7 the PURSE. BAD.")
    void stateBad() {
        inHouse("state(0) ? 1", "state(6) ? 1", "state(7) ? 54", "state(8) ! -1", "state(-1) ! -1", "state(MAX) ! -1", "state(MIN) ! -1");
    }
}
