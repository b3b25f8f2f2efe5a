/** Boundary cases of REPORTS, STRANGERS and lots: Terms 3, promises 31 to 37. */
public final class StrangersBoundsTest extends Bounds {
    /** Six lads, each of 8 lights. */
    private static final String[] SIX_BRIGHT = {"pane(4, 255, 0) = 0", "pane(4, 255, 1) = 1", "pane(4, 255, 2) = 2", "pane(4, 255, 3) = 3", "pane(4, 255, 4) = 4",
        "pane(4, 255, 5) = 5"};

    public static void main(String[] args) throws Exception {
        holdAll(StrangersBoundsTest.class);
    }

    /** How many STRANGERS fit one REPORT. */
    private void fit(int k, int asked, int least, int most, int strangers) {
        run("report(" + k + ", " + asked + ", " + least + ", " + most + ") = 0", "who(0) ? " + strangers);
    }

    // ---- Terms 3: reports and strangers

    @Remark("Terms 3: A REPORT (6 at most)")
    void sixReports() {
        run("report(0, 0, 0, 8) = 0", "report(0, 0, 0, 8) = 1", "report(0, 0, 0, 8) = 2", "report(0, 0, 0, 8) = 3", "report(0, 0, 0, 8) = 4", "many(3) ? 5",
            "report(0, 0, 0, 0) = 5", "many(3) ? 6", "who(0) ? 5", "report(0, 0, 8, 8) ! -2", "many(3) ? 6", "who(0) ? 5");
    }

    @Remark("Terms 3: behind k MINUTES (0 to 15; from MINUTE 0 on, nobody looking)")
    void behindNoneToFifteen() {
        // at first; behind one MINUTE 0 and 255 are dark of a sewer and of a widow; behind fifteen all of theirs are
        fit(0, 0, 0, 0, 5);
        fit(1, 0, 0, 0, 7);
        fit(14, 0, 0, 0, 1 + 256 + 0 + 1 + 1);
        fit(14, 0, 8, 8, 1 + 0 + 256 + 1 + 1);
        fit(15, 0, 0, 0, 1 + 256 + 256 + 1 + 1);
        run("report(16, 0, 0, 0) ! -1", "report(-1, 0, 0, 0) ! -1");
        // from MINUTE 0 on, whatever MINUTE, PANES, RULES there are now
        run("report(2, 0, 8, 8) = 0", "who(0) ? 11", "pane(3, 255, 0) = 0", "minute() = 13", "who(0) ? 11", "tape pane rag;", "rules() = 1", "lord(0, 9) = 1", "ward(0, 0, 9) = 0",
            "who(0) ? 11");
    }

    @Remark("Terms 3: how many lights there were in a SCENE (asked 0; 0 to 8)")
    void lightsReported() {
        fit(0, 0, 0, 8, 1280);
        fit(0, 0, 0, 7, 1275);
        fit(0, 0, 1, 8, 1275);
        fit(0, 0, 8, 8, 5);
        run("report(0, 0, 0, 9) ! -1", "report(0, 0, -1, 8) ! -1", "report(0, 0, 9, 9) ! -1", "report(0, 0, -1, -1) ! -1");
    }

    @Remark("Terms 3: or what the SCENE left by 16 (1; 0 to 15)")
    void restsReported() {
        fit(0, 1, 0, 15, 1280);
        fit(0, 1, 0, 14, 1200);
        fit(0, 1, 1, 15, 1200);
        fit(0, 1, 15, 15, 80);
        fit(0, 1, 0, 0, 80);
        run("report(0, 1, 0, 16) ! -1", "report(0, 1, -1, 15) ! -1", "report(0, 1, 16, 16) ! -1", "report(0, 1, 9, 15) = 0");
        // 255 leaves 15, 240 leaves 0, 16 leaves 0
        run("report(0, 0, 8, 8) = 0", "report(0, 1, 15, 15) = 1", "who(0) ? 5", "who(2) ? 255");
        run("report(0, 0, 4, 4) = 0", "report(0, 1, 0, 0) = 1", "who(0) ? 5", "who(2) ? 240");
    }

    @Remark("Terms 3: was from LEAST to MOST.")
    void fromLeastToMost() {
        // 28 SCENES have two lights, 56 three, 70 four
        fit(0, 0, 2, 2, 140);
        fit(0, 0, 2, 3, 420);
        fit(0, 0, 3, 4, 630);
        fit(0, 0, 2, 4, 770);
        fit(0, 1, 7, 8, 160);
        run("report(0, 0, 3, 2) ! -1", "report(0, 1, 15, 14) ! -1");
    }

    @Remark("Terms 3: A STRANGER is a KIND (1 to 5) and a SCENE at first.")
    void strangersOfFiveKinds() {
        run("who(0) ? 1280", "who(1) ? 1", "who(2) ? 0");
        // the last KIND alone: from dark, four lights behind MINUTE 2
        run("report(0, 0, 0, 0) = 0", "report(3, 1, 15, 15) = 1", "who(0) ? 1", "who(1) ? 5", "who(2) ? 0");
        // the last SCENE alone, of a widow: dark behind MINUTE 0, all lights behind MINUTE 1
        run("report(0, 0, 8, 8) = 0", "report(1, 0, 0, 0) = 1", "report(2, 0, 8, 8) = 2", "who(0) ? 1", "who(1) ? 3", "who(2) ? 255");
    }

    @Remark("Terms 3: A STRANGER is a KIND (1 to 5) and a SCENE at first.")
    void liarsByTheFirstAndTheLastKind() {
        // but for the last REPORT a navvy's 1, which goes to 128, would fit, and no other KIND's
        run("report(0, 1, 1, 1) = 0", "report(0, 0, 1, 1) = 1", "report(0, 0, 1, 1) = 2", "report(1, 1, 0, 0) = 3", "who(0) ? 1", "who(1) ? 1", "report(0, 0, 2, 2) = 4", "liar() ? 4");
        // a dog alone
        run("report(0, 0, 0, 0) = 0", "report(3, 1, 15, 15) = 1", "report(0, 0, 0, 0) = 2", "who(1) ? 5", "report(0, 0, 1, 1) = 3", "liar() ? 3");
        // a pane's 1 goes to 2, but KIND 0 is no STRANGER's; without the first REPORT a navvy's 4 would fit
        run("report(0, 1, 1, 1) = 0", "report(0, 0, 1, 1) = 1", "report(1, 1, 2, 2) = 2", "who(0) ? 0", "liar() ? 0");
    }

    @Remark("Terms 3: Those that FIT: by which each REPORT is so.")
    void fitEachReport() {
        // the first, the last of six is not so
        run("report(0, 1, 1, 1) = 0", "report(0, 1, 0, 1) = 1", "report(0, 1, 1, 2) = 2", "report(0, 0, 0, 8) = 3", "report(0, 0, 0, 8) = 4", "who(0) ? 80",
            "report(0, 1, 2, 2) = 5", "who(0) ? 0");
        run("report(0, 1, 2, 2) = 0", "report(0, 1, 0, 1) = 1", "who(0) ? 0");
        run("who(0) ? 1280");
    }

    @Remark("Terms 3: LIAR: if none FITS, the least REPORT but for which some would.")
    void liarLeastAndLast() {
        // none, one; two against one another: the least; five against the last one
        run("liar() ! -3", "report(0, 1, 1, 1) = 0", "liar() ! -3", "report(0, 1, 2, 2) = 1", "liar() ? 0", "report(0, 1, 1, 1) = 2", "liar() ? 1");
        run("report(0, 1, 1, 1) = 0", "report(0, 1, 1, 1) = 1", "report(0, 1, 1, 1) = 2", "report(0, 1, 1, 1) = 3", "report(0, 1, 1, 1) = 4", "liar() ! -3",
            "report(0, 1, 2, 2) = 5", "liar() ? 5");
        // no one of them alone is in the way
        run("report(0, 1, 1, 1) = 0", "report(0, 1, 2, 2) = 1", "report(0, 1, 1, 1) = 2", "report(0, 1, 2, 2) = 3", "who(0) ? 0", "liar() ! -3");
        run("report(0, 1, 1, 1) = 0", "report(0, 1, 2, 2) = 1", "report(0, 1, 3, 3) = 2", "liar() ! -3");
        // the least of three, one of which is seen first at another MINUTE; without the last one a sewer's 255 would fit
        run("report(1, 0, 0, 0) = 0", "report(0, 0, 8, 8) = 1", "report(2, 0, 0, 0) = 2", "who(0) ? 1", "report(2, 0, 1, 7) = 3", "liar() ? 3");
        run("report(15, 0, 1, 8) = 0", "report(0, 0, 8, 8) = 1", "report(1, 0, 0, 0) = 2", "who(0) ? 0", "liar() ? 0");
    }

    // ---- Terms 3: lots

    @Remark("Terms 3: LOT: A MINUTE by chance: z (an int; 1 at first) becomes z * 1103515245 + 12345")
    void lotWraps() {
        run("seed(1) = 1", "lot() = 0", "seed(0) = 1103527590", "lot() = 0", "seed(-1) = 12345", "lot() = 0", "seed(MAX) = -1103502900", "lot() = 0", "seed(MIN) = 1043980748",
            "lot() = 0", "seed(0) = -2147471303");
    }

    @Remark("Terms 3: the ACT in it is what z >>> 16 leaves by how many PANES there are and 1.")
    void actsOfLots() {
        // of 7 ACTS none, the first, the fifth by a z below 0, the last; of 2 both; without PANES none
        run(with(SIX_BRIGHT, "seed(0) = 1", "lot() = 0", "state(4) ? 0", "state(0) ? 1"));
        run(with(SIX_BRIGHT, "seed(MIN) = 1", "lot() = 13", "state(4) ? 1"));
        run(with(SIX_BRIGHT, "seed(-1) = 1", "lot() = 13", "state(4) ? 16"));
        run(with(SIX_BRIGHT, "seed(2) = 1", "lot() = 13", "state(4) ? 32"));
        run("pane(4, 255, 0) = 0", "seed(-1) = 1", "lot() = 13", "state(4) ? 1");
        run("pane(4, 255, 0) = 0", "lot() = 0", "state(4) ? 0");
        run("seed(-1) = 1", "lot() = 0", "state(0) ? 1");
    }

    // ---- Promises 31 to 34

    @Remark("Promise 31: A REPORT: its number. BAD: also MOST below LEAST; FULL.")
    void reportBounds() {
        inHouse("report(-1, 0, 0, 8) ! -1", "report(16, 0, 0, 8) ! -1", "report(0, -1, 0, 8) ! -1", "report(0, 2, 0, 8) ! -1", "report(0, 0, -1, 8) ! -1",
            "report(0, 0, 0, 9) ! -1", "report(0, 1, 0, 16) ! -1", "report(0, 1, -1, 0) ! -1", "report(0, 0, 5, 4) ! -1", "report(0, 1, 15, 14) ! -1");
        inHouse("report(MAX, 0, 0, 8) ! -1", "report(MIN, 0, 0, 8) ! -1", "report(0, MAX, 0, 8) ! -1", "report(0, 0, MIN, 8) ! -1", "report(0, 0, 0, MAX) ! -1",
            "report(0, 1, MIN, MAX) ! -1");
        inHouse("report(0, 0, 0, 8) = 3", "report(15, 1, 0, 15) = 4", "report(0, 0, 4, 4) = 5", "report(0, 0, 0, 8) ! -2", "report(0, 0, 8, 0) ! -1", "report(16, 0, 0, 8) ! -1",
            "report(0, 2, 0, 8) ! -1", "report(0, 0, 0, 9) ! -1");
    }

    @Remark("Promise 32: There are no REPORTS: how many there were.")
    void forgetBounds() {
        run("forget() = 0", "report(0, 0, 0, 0) = 0", "who(0) ? 5", "forget() = 1", "many(3) ? 0", "who(0) ? 1280", "forget() = 0");
        run("report(0, 0, 0, 0) = 0", "report(0, 0, 8, 8) = 1", "report(0, 0, 8, 8) = 2", "report(0, 0, 8, 8) = 3", "report(0, 0, 8, 8) = 4", "report(0, 0, 8, 8) = 5",
            "report(0, 0, 8, 8) ! -2", "liar() ? 0", "forget() = 6", "liar() ! -3", "report(0, 0, 8, 8) = 0", "who(0) ? 5");
    }

    @Remark("Promise 33: STRANGERS that FIT: what = 0 how many; of that with the least KIND, of these the least SCENE: 1 KIND, 2 SCENE.")
    void whoLeast() {
        // the least SCENE of the least KIND, though another KIND has a lesser one: a sewer's 51 goes to 85, then to 255; of a widow 0 does
        run("report(0, 0, 7, 8) = 0", "who(0) ? 45", "who(1) ? 1", "who(2) ? 127");
        run("report(2, 0, 8, 8) = 0", "who(1) ? 1", "who(2) ? 255", "report(0, 0, 0, 7) = 1", "who(1) ? 2", "who(2) ? 51", "report(0, 0, 0, 0) = 2", "who(0) ? 1", "who(1) ? 3",
            "who(2) ? 0");
    }

    @Remark("Promise 33: BAD; NONE (of 1, 2): there are none.")
    void whoBounds() {
        inHouse("who(-1) ! -1", "who(3) ! -1", "who(MAX) ! -1", "who(MIN) ! -1");
        run("report(0, 0, 0, 0) = 0", "report(0, 0, 1, 1) = 1", "who(0) ? 0", "who(1) ! -3", "who(2) ! -3", "who(3) ! -1", "who(-1) ! -1");
    }

    @Remark("Promise 34: LIAR. NONE: some FIT; or there is no such REPORT.")
    void liarNone() {
        run("liar() ! -3", "report(0, 0, 0, 0) = 0", "liar() ! -3", "report(0, 0, 1, 1) = 1", "liar() ? 0", "report(0, 0, 2, 2) = 2", "liar() ! -3");
        inHouse("liar() ! -3", "report(0, 1, 6, 6) = 3", "liar() ? 0");
    }

    // ---- Promises 35 to 37

    @Remark("Promise 35: z becomes v: what it was.")
    void seedAnyInt() {
        run("seed(0) = 1", "seed(MAX) = 0", "seed(MIN) = MAX", "seed(-1) = MIN", "seed(1) = -1", "seed(1) = 1");
    }

    @Remark("Promise 36: A MINUTE by LOT: what it was WORTH. STATE: it is OVER.")
    void lotTillOver() {
        run("pane(4, 255, 0) = 0", "ends(1) = 12", "seed(-1) = 1", "lot() = 13", "state(3) ? 1", "lot() ! -4", "seed(-1) = -1103502900", "ends(2) = 1", "lot() = 7", "lot() ! -4");
        inHouse("ends(1) = 12", "lot() ! -4", "seed(5) = 5");
        run(with(new String[] {"ends(16) = 12"}, with(times(16, "lot() = 0"), "lot() ! -4", "state(0) ? 16")));
    }

    @Remark("Promise 37: How many of n (1 to 40) times all MINUTES yet by LOT, each from how it is now (z goes on from one to the next), are WORTH v (0 to 999) or more")
    void timesOfOneToForty() {
        // one MINUTE left: 1, 1, 0 are the ACTS from -1 on, and 18 of the first 40 are 1; each is WORTH 13
        String[] one = {"pane(4, 255, 0) = 0", "seed(-1) = 1"};
        run(with(one, "ends(1) = 12", "times(1, 13) ? 1", "times(1, 14) ? 0", "times(2, 13) ? 2", "times(3, 13) ? 2", "times(40, 13) ? 18", "times(40, 14) ? 0", "times(40, 0) ? 40",
            "times(40, 1) ? 18", "times(40, 999) ? 0"));
        // two MINUTES left: 13 + 7, 0, 13 at first
        run(with(one, "ends(2) = 12", "times(1, 20) ? 1", "times(1, 21) ? 0", "times(2, 1) ? 1", "times(3, 13) ? 2", "times(3, 14) ? 1", "times(40, 13) ? 27", "times(40, 20) ? 9",
            "times(40, 21) ? 0"));
        // none left: WORTH 0
        run(with(one, "ends(1) = 12", "lot() = 13", "times(1, 0) ? 1", "times(40, 0) ? 40", "times(40, 1) ? 0"));
    }

    @Remark("Promise 37: (all is as it was in the end, z, too). BAD.")
    void timesBounds() {
        inHouse("times(0, 0) ! -1", "times(41, 0) ! -1", "times(-1, 0) ! -1", "times(1, -1) ! -1", "times(1, 1000) ! -1", "times(MAX, 0) ! -1", "times(MIN, 0) ! -1",
            "times(1, MAX) ! -1", "times(1, MIN) ! -1", "times(1, 0) ? 1", "times(40, 999) ? 0", "times(40, 0) ? 40", "seed(5) = 5");
    }
}
