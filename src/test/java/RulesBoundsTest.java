/** Boundary cases of THE TAPE and THE RULES: Terms 2, promises 13 and 14. */
public final class RulesBoundsTest extends Bounds {
    private static final long DOG_RAG = 0x3b67617220676f64L;
    private static final String EIGHT_RULES = "dog rag;".repeat(8);

    public static void main(String[] args) throws Exception {
        holdAll(RulesBoundsTest.class);
    }

    /** A TEXT that tells so many RULES; THE TAPE is used up. */
    private void tells(String text, int rules) {
        run(with(HOUSE, "tape " + text, "many(5) ? " + text.length(), "rules() = " + rules, "many(1) ? " + rules, "many(5) ? 0"));
    }

    /** A TEXT with a FAULT at a place: it is refused, and nothing is changed but that THE TAPE is used up. */
    private void faulty(String text, int place) {
        alike(with(HOUSE, "tape " + text, "rules() = " + (-100 - place), "many(5) ? 0"), HOUSE);
    }

    /** Whether a condition holds of PANE 5: MINUTE 2, 6 LIGHTS, LOOKED at 4 times, FOG 3, its number. */
    private void holds(String condition, boolean so) {
        run("pane(4, 0, 0) = 0", "pane(4, 0, 0) = 1", "pane(4, 0, 0) = 2", "pane(4, 0, 0) = 3", "pane(4, 0, 0) = 4", "pane(4, 254, 0) = 5", "news(0, 3) = 4",
            "news(1, 3) = 4", "sheet(0, 0, 2) = 1", "goAll(0, 0, 2) = 0", "lord(0, 3) = 0", "change(5, 2, 4) = 0", "paneOf(5, 5) = 6",
            "tape pane if " + condition + " rag;", "rules() = 1", "paneOf(5, 8) ? " + (so ? 2 : 0));
    }

    /** A condition of A, B and C, by all that these can be; on one object, where each text comes in place of the one ahead. */
    private void truths(String condition, Truth truth) {
        Run run = new Run("pane(4, 0, 0) = 0");
        for (int set = 0; set < 8; set++) {
            boolean a = (set & 1) != 0;
            boolean b = (set & 2) != 0;
            boolean c = (set & 4) != 0;
            String text = condition.replace("A", a ? "3>2" : "3<3").replace("B", b ? "4=4" : "4=3").replace("C", c ? "2<5" : "4>4");
            run.go("tape lad if " + text + " rag;", "rules() = 1", "paneOf(0, 8) = " + (truth.of(a, b, c) ? 2 : 0));
        }
        take(run);
    }

    private interface Truth {
        boolean of(boolean a, boolean b, boolean c);
    }

    // ---- Terms: what rules() changes, when it is refused

    @Remark("Terms: (but that THE TAPE is used up by rules())")
    void refusedRulesUseTheTapeUp() {
        faulty("cat rag;", 0);
        run(with(HOUSE, "tape cat rag;", "many(5) ? 8", "rules() = -100", "many(5) ? 0", "many(1) ? 2", "rules() = 0", "many(1) ? 0"));
        // other refused calls leave THE TAPE
        inHouse("many(5) ? 8", "feed(0, 9) ! -1", "pane(9, 9, 9) ! -1", "many(5) ? 8");
    }

    // ---- Terms 2: the tape and the text

    @Remark("Terms 2: THE TAPE takes bytes, 200 at most")
    void tapeOfTwoHundred() {
        run("tape " + " ".repeat(199), "many(5) ? 199", "feed(32, 1) = 200", "many(5) ? 200", "feed(32, 1) ! -2", "many(5) ? 200");
        // as many signs as bytes
        faulty(";".repeat(200), 0);
        faulty("dog if " + "(1<2)and".repeat(24) + "1", 200);
    }

    @Remark("Terms 2: rules() uses it up.")
    void rulesUseTheTapeUp() {
        // told or at fault, full or empty
        run("tape dog rag;", "rules() = 1", "many(5) ? 0", "feed(32, 1) = 1", "tape cat", "many(5) ? 4", "rules() = -101", "many(5) ? 0", "rules() = 0",
            "many(5) ? 0", "tape " + " ".repeat(200), "feed(32, 1) ! -2", "rules() = 0", "feed(32, 1) = 1");
        // nothing of an earlier text stays behind a shorter one
        run("tape dog rag;dog rag;", "rules() = 2", "tape dog", "rules() = -103", "tape dog if 1", "rules() = -108");
        run("tape " + "9".repeat(30), "rules() = -100", "tape dog if 1", "rules() = -108", "tape " + "z".repeat(30), "rules() = -100", "tape dog", "rules() = -103");
    }

    @Remark("Terms 2: TEXT: { KIND DO ; | KIND if COND DO ; }, 8 RULES at most.")
    void noneToEightRules() {
        tells("", 0);
        tells(" ", 0);
        tells("dog rag;", 1);
        tells(EIGHT_RULES, 8);
        tells(EIGHT_RULES + " ", 8);
        faulty(EIGHT_RULES + "dog rag;", 64);
        tells("dog if 1<2 rag;", 1);
        faulty(";", 0);
        faulty("dog ;", 4);
        faulty("dog if rag;", 7);
        faulty("dog 1<2 rag;", 4);
        faulty("if 1<2 rag;", 0);
        faulty("dog rag;;", 8);
    }

    @Remark("Terms 2: KIND: pane | navvy | sewer | widow | lad | dog.")
    void kindsInTheText() {
        for (String kind : new String[] {"pane", "navvy", "sewer", "widow", "lad", "dog"}) {
            tells(kind + " rag;", 1);
            // one letter more, one less
            faulty(kind + "s rag;", 0);
            faulty(kind.substring(0, kind.length() - 1) + " rag;", 0);
            faulty(kind.substring(1) + " rag;", 0);
        }
        for (String other : new String[] {"look", "if", "not", "or", "and", "minute", "fog", "7", "(", "<"}) {
            faulty(other + " rag;", 0);
        }
    }

    @Remark("Terms 2: DO: look | pass | rag.")
    void dosInTheText() {
        String[] dos = {"look", "pass", "rag"};
        for (int will = 0; will < dos.length; will++) {
            run(with(HOUSE, "tape pane " + dos[will] + ";", "rules() = 1", "paneOf(0, 8) ? " + will));
            faulty("pane " + dos[will] + "s;", 5);
            faulty("pane " + dos[will].substring(1) + ";", 5);
        }
        for (String other : new String[] {"pane", "not", "minute", "or", "7", ";", "("}) {
            faulty("pane " + other + ";", 5);
        }
        faulty("pane if 1=1 if;", 12);
        faulty("pane if 1=1 dog;", 12);
    }

    @Remark("Terms 2: COND: ALL { or ALL }")
    void oneOrMoreAlls() {
        holds("1=1", true);
        holds("1=2", false);
        holds("1=2 or 1=1", true);
        holds("1=1 or 1=2", true);
        holds("1=2 or 1=2", false);
        holds("1=2 or 1=2 or 1=2 or 1=1", true);
        holds("1=2 or 1=2 or 1=2 or 1=2", false);
        truths("A or B or C", (a, b, c) -> a || b || c);
        truths("A or(B or C)", (a, b, c) -> a || b || c);
        faulty("dog if 1=1 or rag;", 14);
        faulty("dog if or 1=1 rag;", 7);
        faulty("dog if 1=1 or or 1=1 rag;", 14);
    }

    @Remark("Terms 2: ALL: ONE { and ONE }")
    void oneOrMoreOnes() {
        holds("1=1 and 1=1", true);
        holds("1=2 and 1=1", false);
        holds("1=1 and 1=2", false);
        holds("1=1 and 1=1 and 1=1 and 1=1", true);
        holds("1=1 and 1=1 and 1=1 and 1=2", false);
        // and binds ahead of or, on either side
        holds("1=1 or 1=1 and 1=2", true);
        holds("1=2 and 1=1 or 1=1", true);
        holds("(1=1 or 1=1) and 1=2", false);
        holds("1=2 and (1=1 or 1=1)", false);
        truths("A and B and C", (a, b, c) -> a && b && c);
        truths("A and B or C", (a, b, c) -> a && b || c);
        truths("A or B and C", (a, b, c) -> a || b && c);
        truths("(A or B)and C", (a, b, c) -> (a || b) && c);
        truths("A and(B or C)", (a, b, c) -> a && (b || c));
        truths("A and B or B and C or C and A", (a, b, c) -> a && b || b && c || c && a);
        faulty("dog if 1=1 and rag;", 15);
        faulty("dog if and 1=1 rag;", 7);
        faulty("dog if 1=1 and or 1=1 rag;", 15);
    }

    @Remark("Terms 2: ONE: { not } ( VALUE SIGN VALUE | \"(\" COND \")\" )")
    void noneOrMoreNots() {
        holds("not 1=1", false);
        holds("not 1=2", true);
        holds("not not 1=1", true);
        holds("not not not 1=1", false);
        holds("not (1=2)", true);
        holds("not (not (1=2))", false);
        // not binds ahead of and, or
        holds("not 1=2 and 1=2", false);
        holds("not 1=1 or 1=1", true);
        holds("not (1=1 or 1=1)", false);
        holds("1=1 and not 1=2", true);
        truths("not A and B or C", (a, b, c) -> !a && b || c);
        truths("not A or not B and not C", (a, b, c) -> !a || !b && !c);
        truths("not A and not B and not C", (a, b, c) -> !a && !b && !c);
        truths("not not A and not not not B", (a, b, c) -> a && !b);
        truths("not(A and B)or not C", (a, b, c) -> !(a && b) || !c);
        truths("not(A or not(B and not(C)))", (a, b, c) -> !(a || !(b && !c)));
        faulty("dog if not rag;", 11);
        faulty("dog if 1 not = 1 rag;", 9);
        faulty("dog if () rag;", 8);
        faulty("dog if (1) rag;", 9);
        faulty("dog if (1=1 rag;", 12);
        faulty("dog if 1=1) rag;", 10);
        faulty("dog if (1=1)=1 rag;", 12);
        faulty("dog if 1=(1) rag;", 9);
    }

    @Remark("Terms 2: VALUE: N | minute | lights | looked | fog | number")
    void valuesInTheText() {
        for (String value : new String[] {"0", "minute", "lights", "looked", "fog", "number"}) {
            tells("dog if " + value + "=0 rag;", 1);
            tells("dog if 0=" + value + " rag;", 1);
        }
        for (String other : new String[] {"dog", "rag", "if", "light", "look", "fogs", "numbers", "minutes", "=", ";", ")"}) {
            faulty("dog if " + other + "=0 rag;", 7);
            faulty("dog if 0=" + other + " rag;", 9);
        }
    }

    @Remark("Terms 2: SIGN: < | = | >")
    void signsHold() {
        // 6 LIGHTS beside one less, as many, one more
        holds("lights<5", false);
        holds("lights<6", false);
        holds("lights<7", true);
        holds("lights=5", false);
        holds("lights=6", true);
        holds("lights=7", false);
        holds("lights>5", true);
        holds("lights>6", false);
        holds("lights>7", false);
        // the bytes beside these three, and two signs
        faulty("dog if 1;2 rag;", 8);
        faulty("dog if 1?2 rag;", 8);
        faulty("dog if 1<=2 rag;", 9);
        faulty("dog if 1==2 rag;", 9);
        faulty("dog if 1 2 rag;", 9);
    }

    @Remark("Terms 2: N are NUMBERS 0 to 9999.")
    void leastAndMostNumber() {
        holds("0=0", true);
        holds("0<1", true);
        holds("9999>9998", true);
        holds("9999=9999", true);
        holds("0000=0", true);
        holds("0009=9", true);
        holds("1000>999", true);
        holds("10=1", false);
        holds("5678=5678", true);
        holds("5678=5679", false);
        faulty("dog if 10000>1 rag;", 7);
        faulty("dog if 1<10000 rag;", 9);
    }

    @Remark("Terms 2: FACTS: the MINUTE that goes by; its LIGHTS, how often it was LOOKED at, FOG then; its number.")
    void factsAsTheyAre() {
        holds("minute=2", true);
        holds("lights=6", true);
        holds("looked=4", true);
        holds("fog=3", true);
        holds("number=5", true);
        // on the right, too, and beside one another
        holds("2=minute", true);
        holds("6=lights", true);
        holds("4=looked", true);
        holds("3=fog", true);
        holds("5=number", true);
        holds("3=minute or 5=lights or 5=looked or 4=fog or 6=number", false);
        holds("minute<fog and fog<looked and looked<number and number<lights", true);
        holds("lights<minute or number<looked or looked<fog or fog=minute", false);
        holds("minute=1 or minute=3 or lights=7 or looked=3 or fog=2 or number=4", false);
        // in a MINUTE: MINUTE 0 goes by, FOG is 3 behind (1), so 7 LIGHTS are 6
        String[] one = {"pane(4, 127, 3) = 0", "lord(0, 2) = 0", "sheet(0, 0, 1) = 1", "write(0, 0, 1) = 1"};
        run(with(one, "tape lad if minute=0 and fog=3 and lights=6 and looked=0 and number=0 rag;", "rules() = 1", "goAll(0, 0, 1) = 0", "wardOf(3, 0) ? 1"));
        run(with(one, "tape lad if minute=1 or fog=2 or lights=7 or looked=1 or number=1 rag;", "rules() = 1", "goAll(0, 0, 1) = 11", "wardOf(3, 0) ? 0"));
        // the least and the most that they can be
        run("pane(4, 255, 3) = 0", "tape lad if minute=0 and lights=8 and looked=0 and fog=0 and number=0 rag;", "rules() = 1", "paneOf(0, 8) ? 2");
        run(with(new String[] {"ends(16) = 12", "pane(4, 0, 0) = 0", "pane(4, 0, 0) = 1", "pane(4, 0, 0) = 2", "pane(4, 0, 0) = 3", "pane(4, 0, 0) = 4",
            "pane(4, 0, 0) = 5"}, with(times(16, "minute() = 0"), "change(5, 2, 9) = 0", "tape lad if minute=16 and lights=0 and looked=9 and fog=9 and number=5 rag;",
            "rules() = 1", "paneOf(5, 8) ? 2", "paneOf(4, 8) ? 0")));
    }

    @Remark("Terms 2: NAMES are rows of letters a to z")
    void letters() {
        // a and z belong to a NAME, the bytes beside them don't
        faulty("doga rag;", 0);
        faulty("dogz rag;", 0);
        faulty("dog` rag;", 3);
        faulty("dog{ rag;", 3);
        faulty("dogA rag;", 3);
        faulty("Dog rag;", 0);
        faulty("DOG rag;", 0);
        faulty("dog_ rag;", 3);
        faulty("dog\u00e4 rag;", 3);
        faulty("\u00ff", 0);
        faulty("\0", 0);
        // 'd' with the highest bit set is no letter
        faulty("\u00e4og rag;", 0);
    }

    @Remark("Terms 2: NUMBERS rows of digits (1 to 4)")
    void digits() {
        tells("dog if 1=1 rag;", 1);
        tells("dog if 1234=1234 rag;", 1);
        faulty("dog if 12345=1 rag;", 7);
        faulty("dog if 00001=1 rag;", 7);
        faulty("dog if 1=" + "9".repeat(30) + " rag;", 9);
        // 0 and 9 belong to a NUMBER, the bytes beside them don't
        tells("dog if 0909=9090 rag;", 1);
        faulty("dog if 1/=1 rag;", 8);
        faulty("dog if 1:=1 rag;", 8);
        faulty("dog if -1=1 rag;", 7);
        faulty("dog if 1.5=1 rag;", 8);
    }

    @Remark("Terms 2: both as long as they go; blanks (32) part them, and stand elsewhere as one likes.")
    void blanks() {
        tells("dog rag;", 1);
        tells("   dog    rag   ;   ", 1);
        tells("dog if(1<2)rag;", 1);
        tells("dog if 1 < 2 rag ; dog if ( 1 = 2 ) rag ;", 2);
        faulty("dograg;", 0);
        faulty("dog if12<3 rag ;dogif 1<2 rag;", 16);
        faulty("d og rag;", 0);
        faulty("dog if 1 2<3 rag;", 9);
        faulty("dog if lights looked<3 rag;", 14);
        // a NUMBER goes as far as its digits, a NAME as far as its letters
        tells("dog if 1<2rag;", 1);
        tells("dog if1<2 rag;", 1);
        faulty("dog if 1<fog2 rag;", 12);
        // the bytes beside 32, and other signs that look empty
        faulty("dog\37rag;", 3);
        faulty("dog!rag;", 3);
        faulty("dog\trag;", 3);
        faulty("dog\nrag;", 3);
        faulty("dog rag;\r", 8);
        faulty("dog\u00a0rag;", 3);
        faulty("dog\0rag;", 3);
    }

    @Remark("Terms 2: At most 3 \"(\" are open within one another.")
    void threeOpen() {
        tells("dog if (((1<2))) rag;", 1);
        faulty("dog if ((((1<2)))) rag;", 10);
        // one behind the other they may be more, and when one is closed another may open
        tells("dog if (1<2)and(1<2)and(1<2)and(1<2)and(((1<2))) rag;", 1);
        tells("dog if (((1<2)and(1<2))or((1<2)and not(1<2))) rag;", 1);
        faulty("dog if (((1<2)and(1<2))or((1<2)and(not(1<2)))) rag;", 38);
        faulty("dog if not(not(not(not(1<2)))) rag;", 22);
        faulty("dog if (((1<2))) or (((( 1<2", 23);
        // each RULE begins with none
        tells("dog if (((1<2))) rag;dog if (((1<2))) rag;", 2);
    }

    @Remark("Terms 2: FAULT: the place (from 0) of the first byte of the first NAME, NUMBER or other byte that can't stand there")
    void firstPlaceOfAFault() {
        faulty("cat", 0);
        faulty(" cat", 1);
        faulty("dog looks;cat", 4);
        faulty("dog if 1<2 and cat<1 rag;", 15);
        faulty("dog rag; cat rag; rat rag;", 9);
        faulty("dog rag.", 7);
        faulty(" ".repeat(199) + ";", 199);
    }

    @Remark("Terms 2: (a NUMBER of more digits, the fourth \"(\", the first NAME of the ninth RULE, too)")
    void faultsByCount() {
        faulty("dog if 123456=1 rag;", 7);
        faulty("dog if ( ( ( ( 1=1 ) ) ) ) rag;", 13);
        faulty(EIGHT_RULES + " dog rag;", 65);
        faulty(EIGHT_RULES + "dog", 64);
        faulty(EIGHT_RULES + ";", 64);
        tells(EIGHT_RULES.substring(8) + "dog if 1234=1 and (((1=1))) rag;", 8);
    }

    @Remark("Terms 2: or the end (how many bytes there are), if more must come.")
    void endIsAFault() {
        faulty("dog", 3);
        faulty("dog  ", 5);
        faulty("dog rag", 7);
        faulty("dog rag  ", 9);
        faulty("dog if", 6);
        faulty("dog if 1", 8);
        faulty("dog if 1<", 9);
        faulty("dog if 1<2", 10);
        faulty("dog if 1<2 and", 14);
        faulty("dog if 1<2 or ", 14);
        faulty("dog if not", 10);
        faulty("dog if (", 8);
        faulty("dog if (1<2", 11);
        faulty("dog if (1<2)", 12);
        faulty("dog rag;dog", 11);
        faulty(" ".repeat(197) + "dog", 200);
        // behind a whole RULE no more must come
        tells("dog rag;", 1);
        tells(" ".repeat(192) + "dog rag;", 1);
    }

    // ---- Promises 13 and 14

    @Remark("Promise 13: n bytes (1 to 8) come to THE TAPE, the lowest of eight first: how many it has.")
    void oneToEightBytes() {
        inHouse("feed(0, 0) ! -1", "feed(0, 9) ! -1", "feed(0, -1) ! -1", "feed(0, MAX) ! -1", "feed(0, MIN) ! -1", "feed(0, 1) = 9", "feed(0, 8) = 17");
        run("feed(" + DOG_RAG + ", 8) = 8", "rules() = 1", "feed(" + DOG_RAG + ", 3) = 3", "rules() = -103", "feed(" + (DOG_RAG >>> 32) + ", 4) = 4", "rules() = -100",
            "feed(" + DOG_RAG + ", 4) = 4", "feed(" + (DOG_RAG >>> 32) + ", 4) = 8", "rules() = 1");
        // those above the n-th count nothing, and neither does the sign
        run("feed(" + (DOG_RAG | 1L << 63) + ", 7) = 7", "feed(" + (-256L | ';') + ", 1) = 8", "rules() = 1");
    }

    @Remark("Promise 13: BAD; FULL: more than 200.")
    void feedFull() {
        run("tape " + " ".repeat(193), "feed(" + DOG_RAG + ", 8) ! -2", "feed(0, 9) ! -1", "feed(0, 0) ! -1", "feed(" + DOG_RAG + ", 7) = 200",
            "feed(32, 1) ! -2", "feed(32, 0) ! -1", "many(5) ? 200", "rules() = -300");
        run("tape " + " ".repeat(192), "feed(" + DOG_RAG + ", 8) = 200", "rules() = 1");
    }

    @Remark("Promise 14: THE TAPE tells THE RULES (in place of all): how many")
    void rulesInPlaceOfAll() {
        String[] one = {"pane(4, 7, 0) = 0", "tape lad if 1=2 rag;dog rag;lad rag;", "rules() = 3", "paneOf(0, 8) ? 2"};
        run(with(one, "tape dog rag;", "rules() = 1", "many(1) ? 1", "paneOf(0, 8) ? 0"));
        run(with(one, "tape lad pass;", "rules() = 1", "many(1) ? 1", "paneOf(0, 8) ? 1"));
        // an empty TAPE and one of blanks tell none
        run(with(one, "rules() = 0", "many(1) ? 0", "paneOf(0, 8) ? 0"));
        run(with(one, "tape  ", "rules() = 0", "many(1) ? 0", "paneOf(0, 8) ? 0"));
        run("pane(4, 7, 0) = 0", "tape lad if not 1=1 rag;", "rules() = 1", "paneOf(0, 8) ? 0", "tape lad if 1=1 rag;", "rules() = 1", "paneOf(0, 8) ? 2");
        run("pane(4, 7, 0) = 0", "tape dog rag;lad rag;", "rules() = 2", "paneOf(0, 8) ? 2", "tape dog pass;", "rules() = 1", "paneOf(0, 8) ? 0");
        run(with(one, "tape " + "lad pass;".repeat(8), "rules() = 8", "many(1) ? 8", "paneOf(0, 8) ? 1"));
    }

    @Remark("Promise 14: -100 less its FAULT.")
    void rulesAtFault() {
        // the least and the greatest place; THE RULES stay as they were, though a first RULE was whole
        faulty("x", 0);
        faulty(" ".repeat(100) + "dog rag;" + " ".repeat(89) + "dog", 200);
        faulty("pane rag;pane pass;cat", 19);
        run("pane(4, 7, 0) = 0", "tape lad pass;", "rules() = 1", "tape lad rag;lad", "rules() = -111", "many(1) ? 1", "paneOf(0, 8) ? 1");
        run("tape " + EIGHT_RULES + "dog rag;", "rules() = -164", "many(1) ? 0");
    }
}
