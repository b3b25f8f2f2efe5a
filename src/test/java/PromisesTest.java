import java.util.TreeMap;

/** Promises 1 to 53, each by answers worked out by hand. */
public final class PromisesTest {
    private static final int BAD = -1, FULL = -2, NONE = -3, STATE = -4;
    private static final int[] FAR = {Integer.MIN_VALUE, -1000, Integer.MAX_VALUE};

    private static int passed = 0;
    private static int failed = 0;
    private static int promise = 0;
    private static final TreeMap<Integer, Integer> checks = new TreeMap<>();

    private static void due(String call, int got, int want) {
        checks.merge(promise, 1, Integer::sum);
        if (got == want) {
            passed++;
        } else {
            failed++;
            System.out.println("promise " + promise + ": " + call + " answered " + got + ", due is " + want);
        }
    }

    private static int feedText(PaneScenes x, String text) {
        int has = x.many(5);
        for (int i = 0; i < text.length(); i++) {
            has = x.feed(text.charAt(i), 1);
        }
        return has;
    }

    private static int rules(PaneScenes x, String text) {
        feedText(x, text);
        return x.rules();
    }

    /** A navvy, a sewer, a widow, a lad and a dog, each in a WARD of its own, with seven lights. */
    private static PaneScenes five() {
        PaneScenes x = new PaneScenes();
        for (int kind = 1; kind <= 5; kind++) {
            x.pane(kind, 127, kind - 1);
        }
        return x;
    }

    private static void sheetOf(PaneScenes x, int sheet, int... bytes) {
        x.sheet(sheet, 0, bytes.length);
        for (int i = 0; i < bytes.length; i++) {
            x.write(sheet, i, bytes[i]);
        }
    }

    private static int wouldBe(PaneScenes x, int... acts) {
        sheetOf(x, 3, acts);
        return x.wouldBe(3, 0, acts.length);
    }

    private static void newObject() {
        promise = 1;
        PaneScenes x = new PaneScenes();
        for (int what = 0; what <= 6; what++) {
            due("many(" + what + ")", x.many(what), 0);
        }
        int[] state = {0, 12, 0, 0, 0, 4, 0, 60};
        for (int what = 0; what < state.length; what++) {
            due("state(" + what + ")", x.state(what), state[what]);
        }
        for (int f = 0; f < 6; f++) {
            due("wardOf(f, 0)", x.wardOf(f, 0), 0);
            due("wardOf(f, 1)", x.wardOf(f, 1), 3);
        }
        for (int m = 0; m < 16; m++) {
            due("news(m, 0)", x.news(m, 0), 4);
        }
        due("again()", x.again(), NONE);
        due("seed(0)", x.seed(0), 1);
        due("row(0, 0)", x.row(0, 0), -9);
        for (int s = 0; s < 4; s++) {
            due("item of a missing sheet", x.item(s, 2, 0), -11);
            due("taken of an empty shelf", x.taken(s, 0), -11);
        }
        due("who(0)", x.who(0), 5 * 256);
    }

    private static void paneCalls() {
        promise = 2;
        PaneScenes x = new PaneScenes();
        for (int[] wrong : new int[][] {{0, 1, 1}, {6, 1, 1}, {-1, 1, 1}, {1, -1, 1}, {1, 256, 1}, {1, 1, -1}, {1, 1, 6}}) {
            due("a wrong pane", x.pane(wrong[0], wrong[1], wrong[2]), BAD);
        }
        due("many(0)", x.many(0), 0);
        due("pane(1, 0, 0)", x.pane(1, 0, 0), 0);
        due("pane(5, 255, 5)", x.pane(5, 255, 5), 1);
        due("paneOf(1, 0)", x.paneOf(1, 0), 5);
        due("paneOf(1, 1)", x.paneOf(1, 1), 255);
        due("paneOf(1, 3)", x.paneOf(1, 3), 5);
        due("paneOf(1, 2)", x.paneOf(1, 2), 0);
        due("paneOf(1, 4)", x.paneOf(1, 4), 0);
        for (int k = 2; k < 6; k++) {
            due("pane(2, 3, 4)", x.pane(2, 3, 4), k);
        }
        due("the seventh pane", x.pane(2, 3, 4), FULL);
        due("a wrong seventh pane", x.pane(6, 3, 4), BAD);
        due("many(0)", x.many(0), 6);
    }

    private static void paneOfCalls() {
        promise = 3;
        PaneScenes x = five();
        int[] asks = {14, 7 + 1, 2 * (7 + 2), 3, 3 + 1};
        for (int k = 0; k < 5; k++) {
            due("kind", x.paneOf(k, 0), k + 1);
            due("scene", x.paneOf(k, 1), 127);
            due("lights", x.paneOf(k, 5), 7);
            due("asks", x.paneOf(k, 6), asks[k]);
            due("will", x.paneOf(k, 8), 0);
            due("open", x.paneOf(k, 9), 1);
        }
        x.lord(0, 8);
        due("lights in fog 8", x.paneOf(0, 5), 5);
        x.ward(0, 0, 4);
        due("lights behind 4 rags", x.paneOf(0, 5), 1);
        due("asks for 1", x.paneOf(0, 6), 2);
        x.ward(0, 0, 9);
        due("lights, 0 at least", x.paneOf(0, 5), 0);
        due("asks for none", x.paneOf(0, 6), 0);
        x.ward(3, 0, 3);
        due("lad's lights", x.paneOf(3, 5), 2);
        due("lad asks less than 3", x.paneOf(3, 6), 2);
        x.lord(0, 0);
        // a sewer's 7 lights ask 8 pence
        x.lord(1, 8);
        due("open by the last penny", x.paneOf(1, 9), 1);
        x.lord(1, 7);
        due("a penny short", x.paneOf(1, 9), 0);
        x.lord(1, 60);
        x.change(1, 2, 2);
        due("looked at twice of three", x.paneOf(1, 9), 1);
        x.change(1, 2, 3);
        due("looked at as often as is borne", x.paneOf(1, 9), 0);
        x.change(1, 4, 1);
        due("shown", x.paneOf(1, 4), 1);
        nextScenes();
        for (int k : new int[] {-1, 5, 6, Integer.MAX_VALUE, Integer.MIN_VALUE}) {
            due("no such pane", x.paneOf(k, 0), BAD);
        }
        due("paneOf(0, 10)", x.paneOf(0, 10), BAD);
        due("paneOf(0, -1)", x.paneOf(0, -1), BAD);
    }

    private static void nextScenes() {
        PaneScenes x = new PaneScenes();
        int[] first = {129, 129, 129, 64, 64};
        for (int kind = 1; kind <= 5; kind++) {
            x.pane(kind, first[kind - 1], 0);
        }
        // 129 goes to 3 up, to 192 down; 64 two up to 1
        int[][] due = {{192, 130, 130, 1, 1}, {192, 130, 125, 1, 1}, {192, 130, 130, 1, 14}, {192, 130, 125, 1, 1}};
        for (int m = 0; m < due.length; m++) {
            for (int k = 0; k < 5; k++) {
                x.change(k, 1, first[k]);
                due("next scene of kind " + (k + 1) + " in minute " + m, x.paneOf(k, 7), due[m][k]);
            }
            x.minute();
        }
        PaneScenes y = new PaneScenes();
        y.pane(3, 0, 0);
        y.ends(16);
        for (int m = 0; m < 16; m++) {
            y.minute();
        }
        y.change(0, 1, 1);
        due("next scene behind the end, minute 16", y.paneOf(0, 7), 3);
    }

    private static void changeCalls() {
        promise = 4;
        PaneScenes x = five();
        due("change(0, 1, 255)", x.change(0, 1, 255), 127);
        due("change(0, 1, 0)", x.change(0, 1, 0), 255);
        due("change(0, 2, 9)", x.change(0, 2, 9), 0);
        due("change(0, 2, 0)", x.change(0, 2, 0), 9);
        due("change(4, 3, 5)", x.change(4, 3, 5), 4);
        due("change(4, 3, 0)", x.change(4, 3, 0), 5);
        due("change(4, 4, 1)", x.change(4, 4, 1), 0);
        due("state(4)", x.state(4), 16);
        due("change(1, 4, 1)", x.change(1, 4, 1), 0);
        due("change(4, 4, 0)", x.change(4, 4, 0), 1);
        due("state(4)", x.state(4), 2);
        int[][] wrong = {{5, 1, 1}, {-1, 1, 1}, {0, 0, 1}, {0, 5, 0}, {0, -1, 0}, {0, 1, 256}, {0, 1, -1}, {0, 2, 10}, {0, 2, -1},
            {0, 3, 6}, {0, 3, -1}, {1, 4, 2}, {1, 4, -1}};
        for (int[] w : wrong) {
            due("a wrong change", x.change(w[0], w[1], w[2]), BAD);
        }
        due("state(4) as it was", x.state(4), 2);
    }

    private static void remakeCalls() {
        promise = 5;
        PaneScenes x = five();
        x.change(0, 2, 2);
        x.change(0, 4, 1);
        due("remake(0, 5)", x.remake(0, 5), 1);
        due("kind", x.paneOf(0, 0), 5);
        due("scene stays", x.paneOf(0, 1), 127);
        due("looked stays", x.paneOf(0, 2), 2);
        due("shown stays", x.paneOf(0, 4), 1);
        due("asks as a dog", x.paneOf(0, 6), 4);
        due("remake(0, 1)", x.remake(0, 1), 5);
        due("remake(0, 0)", x.remake(0, 0), BAD);
        due("remake(0, 6)", x.remake(0, 6), BAD);
        due("remake(5, 1)", x.remake(5, 1), BAD);
        due("remake(-1, 1)", x.remake(-1, 1), BAD);
        due("kind as it was", x.paneOf(0, 0), 1);
    }

    private static void newsCalls() {
        promise = 6;
        PaneScenes x = new PaneScenes();
        due("news(0, 15)", x.news(0, 15), 4);
        due("news(0, 0)", x.news(0, 0), 15);
        due("news(15, 9)", x.news(15, 9), 4);
        due("news(15, 9)", x.news(15, 9), 9);
        for (int[] w : new int[][] {{-1, 0}, {16, 0}, {0, -1}, {0, 16}}) {
            due("wrong news", x.news(w[0], w[1]), BAD);
        }
        // by WAY and FORCE from a FOG: thicker, clearer, nearer to 5, none
        int[][] fogs = {{0, 12, 3}, {8, 12, 9}, {9, 4, 9}, {2, 13, 0}, {9, 13, 6}, {0, 5, 0}, {3, 14, 5}, {1, 10, 3}, {5, 14, 5},
            {9, 14, 6}, {6, 10, 5}, {9, 6, 8}, {7, 15, 7}, {4, 0, 4}, {4, 2, 4}};
        for (int[] f : fogs) {
            PaneScenes y = new PaneScenes();
            y.news(0, f[1]);
            y.lord(0, f[0]);
            y.minute();
            due("fog " + f[0] + " behind news " + f[1], y.state(6), f[2]);
        }
    }

    private static void wardCalls() {
        promise = 7;
        PaneScenes x = five();
        due("ward(0, 0, 9)", x.ward(0, 0, 9), 0);
        due("ward(0, 0, 0)", x.ward(0, 0, 0), 9);
        due("ward(5, 1, 9)", x.ward(5, 1, 9), 3);
        due("ward(5, 1, 0)", x.ward(5, 1, 0), 9);
        for (int[] w : new int[][] {{-1, 0, 0}, {6, 0, 0}, {6, 1, 0}, {0, 2, 0}, {0, -1, 0}, {0, 0, 10}, {0, 0, -1}, {0, 1, 10}, {0, 1, -1}}) {
            due("a wrong ward", x.ward(w[0], w[1], w[2]), BAD);
        }
        due("ward(1, 1, 0)", x.ward(1, 1, 0), 3);
        due("it bears no look", x.paneOf(1, 9), 0);
        promise = 8;
        due("wardOf(5, 1)", x.wardOf(5, 1), 0);
        x.ward(5, 0, 7);
        due("wardOf(5, 0)", x.wardOf(5, 0), 7);
        due("wardOf(4, 1)", x.wardOf(4, 1), 3);
        for (int[] w : new int[][] {{-1, 0}, {6, 0}, {0, 2}, {0, -1}}) {
            due("a wrong wardOf", x.wardOf(w[0], w[1]), BAD);
        }
    }

    private static void lordCalls() {
        promise = 9;
        PaneScenes x = new PaneScenes();
        due("lord(0, 9)", x.lord(0, 9), 0);
        due("lord(0, 0)", x.lord(0, 0), 9);
        due("lord(1, 999)", x.lord(1, 999), 60);
        due("lord(1, 0)", x.lord(1, 0), 999);
        for (int[] w : new int[][] {{-1, 0}, {2, 0}, {0, 10}, {0, -1}, {1, 1000}, {1, -1}}) {
            due("a wrong lord", x.lord(w[0], w[1]), BAD);
        }
        due("fog", x.state(6), 0);
        due("purse", x.state(7), 0);
        promise = 10;
        due("ends(16)", x.ends(16), 12);
        due("ends(3)", x.ends(3), 16);
        x.minute();
        x.minute();
        due("ends(1) behind minute 1", x.ends(1), STATE);
        due("ends(0)", x.ends(0), BAD);
        due("ends(17)", x.ends(17), BAD);
        due("ends(2)", x.ends(2), 3);
        due("over", x.state(3), 1);
        due("ends(-5)", x.ends(-5), BAD);
    }

    private static void anewCalls() {
        promise = 11;
        PaneScenes x = five();
        rules(x, "lad rag; pane look;");
        x.ends(9);
        x.news(3, 1);
        x.minute();
        x.minute();
        x.minute();
        int scene = x.paneOf(0, 1);
        // the navvy first, then the lad (ragged), then the widow, who has 6 lights by then
        int rags = x.wardOf(3, 0);
        due("rags were hung", rags, 1);
        due("anew()", x.anew(), 3);
        int[] state = {0, 9, 0, 0, 0, 4, 0, 60};
        for (int what = 0; what < state.length; what++) {
            due("state(" + what + ")", x.state(what), state[what]);
        }
        due("scene stays", x.paneOf(0, 1), scene);
        due("rags stay", x.wardOf(3, 0), rags);
        due("rules stay", x.many(1), 2);
        due("news stay", x.news(3, 1), 1);
        for (int k = 0; k < 5; k++) {
            due("looked", x.paneOf(k, 2), 0);
            due("shown", x.paneOf(k, 4), 0);
        }
        due("anew() again", x.anew(), 0);
    }

    private static void stateCalls() {
        promise = 12;
        PaneScenes x = new PaneScenes();
        x.pane(1, 7, 0);
        x.ends(16);
        x.news(1, 11);
        due("state(5)", x.state(5), 4);
        x.minute();
        // 3 lights, not shown: 8, for 6 pence
        due("minute", x.state(0), 1);
        due("score", x.state(2), 8);
        due("shown", x.state(4), 1);
        due("news of minute 1", x.state(5), 11);
        due("fog", x.state(6), 1);
        due("purse", x.state(7), 54);
        due("not over", x.state(3), 0);
        for (int m = 1; m < 16; m++) {
            x.minute();
        }
        due("minute", x.state(0), 16);
        due("end", x.state(1), 16);
        due("over", x.state(3), 1);
        due("news behind minute 15", x.state(5), 0);
        due("state(8)", x.state(8), BAD);
        due("state(-1)", x.state(-1), BAD);
    }

    private static void feedCalls() {
        promise = 13;
        PaneScenes x = new PaneScenes();
        // "dog rag;", the lowest byte first
        long text = 0;
        for (int i = 7; i >= 0; i--) {
            text = text << 8 | "dog rag;".charAt(i);
        }
        due("feed of eight", x.feed(text, 8), 8);
        due("feed of one", x.feed(' ', 1), 9);
        due("feed of none", x.feed(text, 0), BAD);
        due("feed of nine", x.feed(text, 9), BAD);
        due("feed of -1", x.feed(text, -1), BAD);
        due("rules()", x.rules(), 1);
        for (int i = 1; i <= 24; i++) {
            due("feed", x.feed(0x2020202020202020L, 8), 8 * i);
        }
        due("feed 7 more", x.feed(0x2020202020202020L, 7), 199);
        due("feed 2 more", x.feed(0x2020L, 2), FULL);
        due("feed 9 more", x.feed(0x2020L, 9), BAD);
        due("feed 1 more", x.feed(0x20L, 1), 200);
        due("feed 1 more", x.feed(0x20L, 1), FULL);
        due("many(5)", x.many(5), 200);
        due("blanks tell no rules", x.rules(), 0);
        due("many(5)", x.many(5), 0);
    }

    private static void ruleFaults() {
        promise = 14;
        PaneScenes x = new PaneScenes();
        due("rules() of nothing", x.rules(), 0);
        Object[][] texts = {
            {"pane look;", 1}, {"pane look;navvy pass;sewer rag;widow look;lad look;dog look;", 6}, {"  dog   if 1<2 rag  ;  ", 1},
            {"dog if not not(1=1)and not 2>3 or fog<0 pass;", 1}, {"dog if((( 9999>0000 )))look;", 1}, {"lad if 1<2look;", 1},
            {"dog if 1 = 1 and ( ( 1 = 1 ) or ( ( 2 = 2 ) ) ) look;", 1},
            {"pane look;pane look;pane look;pane look;pane look;pane look;pane look;pane look;", 8},
            {"pane look;pane look;pane look;pane look;pane look;pane look;pane look;pane look; dog", -181},
            {"pane look;pane look;pane look;pane look;pane look;pane look;pane look;pane look;;", -180},
            {"cat look;", -100}, {" cat look;", -101}, {"look", -100}, {";", -100}, {"7", -100}, {"A", -100},
            {"dog", -103}, {"dog  ", -105}, {"dog look", -108}, {"dog look ", -109}, {"dog dog;", -104}, {"doglook;", -100},
            {"dog looks;", -104}, {"dog look.", -108}, {"dog look look;", -109}, {"dog if", -106}, {"dog if look;", -107},
            {"dog if 1", -108}, {"dog if 1 look;", -109}, {"dog if 1<", -109}, {"dog if 1<;", -109}, {"dog if 1<2", -110},
            {"dog if 1<2;", -110}, {"dog if 1<2 and look;", -115}, {"dog if 1<2 or", -113}, {"dog if 1<2 3", -111},
            {"dog if 1<2<3 look;", -110}, {"dog if 12345<1 look;", -107}, {"dog if 1<12345 look;", -109}, {"dog if 00000<1 look;", -107},
            {"dog if ((((1<2)))) look;", -110}, {"dog if (1<2 look;", -112}, {"dog if 1<2) look;", -110}, {"dog if () look;", -108},
            {"dog if (1<2", -111}, {"dog if not look;", -111}, {"dog if not", -110}, {"dog if 1 not < 2 look;", -109},
            {"dog if (((1<2))) and (((( 1<2", -124}, {"dog if lights<looked not;", -121}, {"dog if number", -113},
            {"dog if light<1 look;", -107}, {"dog look;\n", -109}, {"dog look;\u00ff", -109}, {"dog\tlook;", -103}, {"dog\u00e0look;", -103},
            {"dogz look;", -100}, {"zdog look;", -100}, {"dog if 0<1 look;", 1}, {"dog if 1<123456", -109}, {"9999 look;", -100},
            {"Dog look;", -100}, {"dog if a1<2 look;", -107}, {"dog if 1<=2 look;", -109}, {"dog if minute minute", -114},
            {"dog if 1<fog2 look;", -112}, {"dog iff 1<2 look;", -104}, {"pane rag;sewer if fog=1 and(lights>2 or)pass;", -139},
        };
        for (Object[] t : texts) {
            String text = (String) t[0];
            due("rules of \"" + text + "\"", rules(x, text), (Integer) t[1]);
            due("the tape is used up", x.many(5), 0);
        }
        due("a fault leaves the rules", rules(x, "dog look;dog pass;"), 2);
        due("a fault leaves the rules", rules(x, "dog rag;dog"), -111);
        due("a fault leaves the rules", x.many(1), 2);
        due("rules() of nothing takes them all", x.rules(), 0);
        due("many(1)", x.many(1), 0);
        longTexts();
        rules(x, "9".repeat(60) + "a".repeat(60));
        due("a number at the end, behind a longer tape", rules(x, "dog if 1"), -108);
        due("a name at the end, behind a longer tape", rules(x, " ".repeat(61) + "dog look;" + " ".repeat(27) + "dog"), -200);
        due("200 signs", rules(x, ";".repeat(200)), -100);
        due("200 blanks", rules(x, " ".repeat(200)), 0);
        due("an end at 200", rules(x, "dog look;".repeat(7) + " ".repeat(134) + "dog"), -300);
        due("a full tape", rules(x, "dog look;".repeat(7) + " ".repeat(128) + "dog look;"), 8);
    }

    private static void longTexts() {
        StringBuilder nots = new StringBuilder("dog if ");
        while (nots.length() < 190) {
            nots.append("not ");
        }
        PaneScenes x = five();
        due("a row of 46 nots", rules(x, nots.append("1=1rag;").toString()), 1);
        due("an even row of nots", x.paneOf(4, 8), 2);
        StringBuilder ors = new StringBuilder("pane if 1=2");
        for (int i = 0; i < 29; i++) {
            ors.append("or 1=2");
        }
        due("30 conditions", rules(x, ors + "rag;"), 1);
        due("none holds", x.paneOf(0, 8), 0);
        due("31 conditions", rules(x, ors + "or 1=1pass;"), 1);
        due("the last holds", x.paneOf(0, 8), 1);
        due("31 conditions, no end", rules(x, ors + "or 1=1pass"), -100 - 195);
    }

    private static int willBy(String condition, int k, PaneScenes x) {
        int told = rules(x, "pane if " + condition + " rag;");
        due("rules of " + condition, told, 1);
        return x.paneOf(k, 8) == 2 ? 1 : 0;
    }

    private static void ruleMeanings() {
        promise = 14;
        PaneScenes x = five();
        // PANE 3: 7 lights, less 1 in fog 4, 2 looks, minute 0
        x.lord(0, 4);
        x.change(3, 2, 2);
        Object[][] due = {{"minute=0", 1}, {"lights=6", 1}, {"looked=2", 1}, {"fog=4", 1}, {"number=3", 1}, {"lights<6", 0}, {"lights>6", 0},
            {"lights>5", 1}, {"lights<7", 1}, {"not lights=6", 0}, {"not not lights=6", 1}, {"1=2 and 1=2 or 1=1", 1}, {"1=1 or 1=2 and 1=2", 1},
            {"(1=1 or 1=2) and 1=2", 0}, {"not 1=2 and 1=1", 1}, {"not 1=1 or 1=1", 1}, {"not(1=1 or 1=1)", 0}, {"not(1=1 and 1=2)", 1},
            {"1=1 and 1=1 and 1=2", 0}, {"1=2 or 1=2 or 1=1", 1}, {"1=2 or 1=2 or 1=2", 0}, {"1=2 or(1=1 and(1=2 or(1=1)))", 1},
            {"1=2 or(1=1 and(1=2 or not(1=1)))", 0}, {"0007=7", 1}, {"9999>minute", 1}, {"looked<number and number<fog and fog<lights", 1}};
        for (Object[] d : due) {
            due("does it hold: " + d[0], willBy((String) d[0], 3, x), (Integer) d[1]);
        }
        due("rules", rules(x, "pane if 0=minute rag;"), 1);
        for (int k = 0; k < 5; k++) {
            due("all are panes", x.paneOf(k, 8), 2);
        }
        String[] names = {"navvy", "sewer", "widow", "lad", "dog"};
        int[][] under = {{0}, {1, 2}, {2}, {3, 4}, {4}};
        for (int i = 0; i < names.length; i++) {
            rules(x, names[i] + " pass;");
            int set = 0;
            int want = 0;
            for (int k = 0; k < 5; k++) {
                set |= x.paneOf(k, 8) << k;
            }
            for (int k : under[i]) {
                want |= 1 << k;
            }
            due("who is a " + names[i], set, want);
        }
        due("rules", rules(x, "sewer pass; lad rag; pane if number=0 rag;"), 3);
        int[] wills = {2, 1, 1, 2, 2};
        for (int k = 0; k < 5; k++) {
            due("will of kind " + (k + 1), x.paneOf(k, 8), wills[k]);
        }
        due("rules", rules(x, "widow rag; sewer pass; dog rag; lad pass; navvy look; pane rag;"), 6);
        wills = new int[] {0, 1, 2, 1, 2};
        for (int k = 0; k < 5; k++) {
            due("first will of kind " + (k + 1), x.paneOf(k, 8), wills[k]);
        }
        due("rules", rules(x, "dog if lights>9 rag; lad if fog=4 pass;"), 2);
        due("the first that holds", x.paneOf(4, 8), 1);
        // what is told in a MINUTE is told behind its NEWS
        due("rules", rules(x, "pane if minute>0 and fog=5 rag; pane if fog=5 pass; pane rag;"), 3);
        due("as all is now", x.paneOf(0, 8), 2);
        due("minute()", x.minute(), 0);
        due("nothing was hung", x.wardOf(0, 0), 0);
        due("minute()", x.minute(), 0);
        due("a rag was hung", x.wardOf(0, 0), 1);
        due("rules", rules(x, "pane if minute=2 pass; pane rag;"), 2);
        due("in minute 2", x.paneOf(0, 8), 1);
        due("minute()", x.minute(), 0);
        due("in minute 3", x.paneOf(0, 8), 2);
        due("no more rags", x.wardOf(0, 0), 1);
        x.ward(0, 0, 9);
        sheetOf(x, 0, 1);
        due("rags are 9 at most", x.goAll(0, 0, 1), 0);
        due("rags are 9 at most", x.wardOf(0, 0), 9);
    }

    private static void minuteCalls() {
        promise = 15;
        PaneScenes x = new PaneScenes();
        x.pane(1, 3, 0);
        x.pane(4, 31, 1);
        x.pane(2, 15, 1);
        // PANE 0 has but 2 lights; PANE 1 asks 3, then PANE 2 asks 6
        due("minute()", x.minute(), 10);
        due("the lowest light is out, two up", x.paneOf(1, 1), 120);
        due("looked", x.paneOf(1, 2), 1);
        due("shown", x.state(4), 2);
        due("purse", x.state(7), 57);
        due("sewer's scene", x.paneOf(2, 1), 17);
        due("navvy's scene", x.paneOf(0, 1), 129);
        due("minute()", x.minute(), 0);
        x.change(2, 1, 127);
        due("in fog 3, 6 lights left", x.minute(), 11);
        due("score", x.state(2), 21);
        due("purse", x.state(7), 49);
        x.ends(3);
        due("minute() when over", x.minute(), STATE);
        due("score", x.state(2), 21);
        lookEdges();
    }

    private static void lookEdges() {
        PaneScenes x = new PaneScenes();
        x.pane(5, 0, 0);
        x.pane(1, 3, 1);
        x.pane(4, 255, 2);
        sheetOf(x, 0, 1, 2, 3, 3, 3, 3);
        due("a look at no light", x.goAll(0, 0, 1), 0);
        due("it asks a penny", x.state(7), 59);
        due("it was looked at", x.paneOf(0, 2), 1);
        due("dog's scene stays dark", x.paneOf(0, 1), 0);
        due("two lights", x.goAll(0, 1, 1), 2);
        due("two lights don't show it", x.state(4), 0);
        // fog 3: 8 lights less 1, then 7 less 1, 6 less 1, then it bears no more
        due("seven lights and 5", x.goAll(0, 2, 1), 12);
        due("it is shown", x.state(4), 4);
        due("six lights", x.goAll(0, 3, 1), 6);
        due("five lights", x.goAll(0, 4, 1), 5);
        due("borne no more", x.goAll(0, 5, 1), 0);
        due("looked thrice", x.paneOf(2, 2), 3);
        PaneScenes y = new PaneScenes();
        y.pane(1, 15, 0);
        y.lord(1, 7);
        sheetOf(y, 0, 1, 1);
        due("too few pence", y.goAll(0, 0, 1), 0);
        due("too few pence", y.paneOf(0, 2), 0);
        y.lord(1, 8);
        due("just enough pence", y.goAll(0, 0, 1), 9);
        due("the purse is empty", y.state(7), 0);
        // fog of the MINUTE counts: 3 lights in fog 2, which becomes 3
        PaneScenes z = new PaneScenes();
        z.pane(4, 7, 0);
        z.lord(0, 2);
        due("behind the news it has 2", z.minute(), 0);
        due("it was not told", z.paneOf(0, 2), 0);
        PaneScenes v = new PaneScenes();
        v.pane(4, 15, 0);
        v.pane(4, 15, 0);
        rules(v, "lad if number=0 pass;");
        due("the least that would show is told, and passed", v.minute() + v.minute(), 0);
        due("the other one never", v.paneOf(1, 2), 0);
    }

    private static void restCalls() {
        promise = 16;
        PaneScenes x = new PaneScenes();
        x.pane(4, 255, 0);
        x.pane(4, 31, 0);
        due("on(0)", x.on(0), 0);
        due("on(1)", x.on(1), 13);
        due("on(2)", x.on(2), 23);
        due("on(16)", x.on(16), 23);
        due("on(17)", x.on(17), BAD);
        due("on(-1)", x.on(-1), BAD);
        x.ends(1);
        due("on(16), but one minute left", x.on(16), 13);
        due("nothing is changed", x.state(0) + x.state(2) + x.state(4), 0);
        promise = 17;
        due("when(0)", x.when(0), 0);
        due("when(1)", x.when(1), NONE);
        x.ends(12);
        due("when(1)", x.when(1), 1);
        x.minute();
        due("when(0), shown now", x.when(0), NONE);
        due("when(1), by its number", x.when(1), 1);
        due("when(2)", x.when(2), BAD);
        due("when(-1)", x.when(-1), BAD);
        x.ends(1);
        due("when(1), over", x.when(1), NONE);
    }

    private static void forCalls() {
        promise = 18;
        PaneScenes x = new PaneScenes();
        x.pane(4, 0, 0);
        due("sceneFor(0)", x.sceneFor(0), 255);
        due("it is as it was", x.paneOf(0, 1), 0);
        x.ward(0, 0, 6);
        // 8 lights less 6 never show; none is told
        due("sceneFor(0) behind rags", x.sceneFor(0), 0);
        x.ward(0, 0, 0);
        x.lord(1, 8);
        x.remake(0, 1);
        // a navvy with 4 lights asks 8, more can't be paid: the least of 4 lights is 15
        x.ends(1);
        due("sceneFor(0) for 8 pence", x.sceneFor(0), 15);
        due("sceneFor(1)", x.sceneFor(1), BAD);
        due("sceneFor(-1)", x.sceneFor(-1), BAD);
        x.minute();
        due("sceneFor(0), over", x.sceneFor(0), 0);
        promise = 19;
        PaneScenes y = new PaneScenes();
        y.pane(4, 255, 5);
        y.ward(0, 0, 2);
        y.ward(1, 1, 0);
        y.ward(2, 0, 1);
        y.ward(3, 0, 1);
        y.ward(4, 0, 7);
        y.ward(5, 0, 9);
        due("wardFor(0)", y.wardFor(0), 2);
        due("it is as it was", y.paneOf(0, 3), 5);
        y.ward(5, 0, 0);
        due("wardFor(0)", y.wardFor(0), 5);
        due("wardFor(1)", y.wardFor(1), BAD);
        due("wardFor(-1)", y.wardFor(-1), BAD);
        y.change(0, 4, 1);
        due("wardFor(0), shown", y.wardFor(0), 0);
    }

    private static void darkCalls() {
        promise = 20;
        PaneScenes x = new PaneScenes();
        x.pane(2, 85, 0);
        x.pane(2, 255, 0);
        x.pane(1, 1, 0);
        x.pane(3, 85, 0);
        x.pane(5, 0, 0);
        // 85 ^ 170 = 255, 255 ^ 255 = 0
        due("dark(0)", x.dark(0), 1);
        due("dark(1)", x.dark(1), 0);
        due("dark(2)", x.dark(2), NONE);
        // a widow: 255 behind minute 0; 255 less 0 behind 1; then 0 behind 2
        due("dark(3)", x.dark(3), 2);
        due("dark(4)", x.dark(4), 0);
        x.ends(2);
        due("dark(3), the end before it", x.dark(3), NONE);
        due("dark(0), in the last minute", x.dark(0), 1);
        x.ends(1);
        due("dark(0), the end before it", x.dark(0), NONE);
        due("dark(5)", x.dark(5), BAD);
        due("dark(-1)", x.dark(-1), BAD);
        x.minute();
        due("dark(1), over", x.dark(1), NONE);
        promise = 21;
        PaneScenes y = new PaneScenes();
        y.pane(1, 1, 0);
        y.pane(1, 17, 0);
        y.pane(4, 1, 0);
        y.pane(2, 1, 0);
        y.pane(5, 0, 0);
        y.pane(1, 0, 0);
        due("back(0)", y.back(0), 8);
        due("back(1)", y.back(1), 4);
        due("back(2)", y.back(2), 4);
        due("back(3)", y.back(3), NONE);
        due("back(4)", y.back(4), 1);
        due("back(5)", y.back(5), 1);
        due("back(6)", y.back(6), BAD);
        due("back(-1)", y.back(-1), BAD);
        y.ends(1);
        due("back(0), beyond the end", y.back(0), 8);
        y.minute();
        y.change(4, 1, 0);
        // from minute 1: 0 is first 0 again behind one
        due("back(4), over", y.back(4), 1);
        y.ends(2);
        y.minute();
        y.change(4, 1, 0);
        due("back(4), from minute 2", y.back(4), backOfDog(2));
    }

    /** By lights in a row of booleans. */
    private static int backOfDog(int minute) {
        boolean[] lit = new boolean[8];
        for (int gone = 1; gone <= 64; gone++) {
            boolean[] next = new boolean[8];
            boolean dark = true;
            for (int i = 0; i < 8; i++) {
                next[(i + 2) % 8] = lit[i];
            }
            for (int i = 0; i < 8; i++) {
                if ((minute + gone - 1) % 3 == 2 && i < 4) {
                    next[i] = !next[i];
                }
                dark &= !next[i];
            }
            if (dark) {
                return gone;
            }
            lit = next;
        }
        return NONE;
    }

    private static void companyCalls() {
        promise = 22;
        PaneScenes x = new PaneScenes();
        due("companies(-1)", x.companies(-1), 0);
        x.pane(1, 0, 0);
        x.pane(1, 7, 1);
        x.pane(1, 3, 2);
        x.pane(1, 240, 3);
        x.pane(1, 255, 3);
        // 0 and 7 by way of 3: 0-3 two lights, 3-7 one; 240 and 255 by their ward
        due("companies(-1)", x.companies(-1), 2);
        due("companies(0)", x.companies(0), 7);
        due("companies(1)", x.companies(1), 7);
        due("companies(3)", x.companies(3), 24);
        x.change(2, 4, 1);
        due("companies(-1)", x.companies(-1), 3);
        due("companies(0)", x.companies(0), 1);
        due("companies(2), shown", x.companies(2), 0);
        x.change(1, 3, 0);
        due("companies(1)", x.companies(1), 3);
        due("companies(5)", x.companies(5), BAD);
        due("companies(-2)", x.companies(-2), BAD);
        due("companies(6)", x.companies(6), BAD);
        PaneScenes y = new PaneScenes();
        // a chain that is told against its numbers: 5-3-1-0-2-4
        int[] scenes = {0b00001111, 0b00000011, 0b00111111, 0b00000000, 0b11111111, 0b11000000};
        for (int k = 0; k < 6; k++) {
            y.pane(1, scenes[k], k);
        }
        due("all in one row", y.companies(4), 63);
        due("one company", y.companies(-1), 1);
        y.change(0, 4, 1);
        due("parted in two", y.companies(-1), 2);
        due("one part", y.companies(5), 1 << 5 | 1 << 3 | 1 << 1);
        for (int k = 0; k < 6; k++) {
            y.change(k, 4, 1);
        }
        due("all are shown", y.companies(-1), 0);
    }

    private static void tourCalls() {
        promise = 23;
        PaneScenes x = new PaneScenes();
        due("tour(0, 0)", x.tour(0, 0), 0);
        due("tour(0, 1)", x.tour(0, 1), NONE);
        x.pane(1, 255, 0);
        x.pane(1, 15, 0);
        x.pane(1, 3, 0);
        due("from 0 by 3, 15 to 255", x.tour(0, 0), 8);
        due("from 0 by 3 first", x.tour(0, 1), 2);
        due("from 255", x.tour(255, 0), 6);
        due("from 255", x.tour(255, 1), 0);
        due("from 15: 3 first, then back", x.tour(15, 0), 8);
        due("from 15: by 15 itself", x.tour(15, 1), 1);
        x.change(1, 4, 1);
        due("from 15, 15 being shown", x.tour(15, 0), 8);
        due("from 15, 15 being shown", x.tour(15, 1), 2);
        x.change(2, 1, 0);
        due("of two like rows the least pane first", x.tour(15, 1), 0);
        due("4 and 8", x.tour(15, 0), 12);
        x.change(0, 4, 1);
        x.change(2, 4, 1);
        due("all are shown", x.tour(15, 0), 0);
        due("all are shown", x.tour(15, 1), NONE);
        for (int[] w : new int[][] {{-1, 0}, {256, 0}, {0, -1}, {0, 2}}) {
            due("a wrong tour", x.tour(w[0], w[1]), BAD);
        }
        PaneScenes y = new PaneScenes();
        for (int k = 0; k < 6; k++) {
            y.pane(1, 63 >> k, 0);
        }
        due("six in a row, upwards", y.tour(0, 0), 6);
        due("six in a row, upwards", y.tour(0, 1), 5);
        due("six in a row, downwards", y.tour(255, 0), 7);
        due("six in a row, downwards", y.tour(255, 1), 0);
    }

    /** Lads of 8 lights and of 4, each in a WARD of its own. */
    private static PaneScenes twoLads() {
        PaneScenes x = new PaneScenes();
        x.pane(4, 255, 0);
        x.pane(4, 15, 1);
        return x;
    }

    private static void planCalls() {
        promise = 24;
        PaneScenes x = twoLads();
        // FOG becomes 1, 2, 3, 4: a light less from the third on
        due("best(0)", x.best(0), 0);
        due("best(1)", x.best(1), 13);
        due("best(2)", x.best(2), 22);
        // 8 + 5, 4 + 5, then of 7 lights 6 are left
        due("best(3)", x.best(3), 28);
        due("best(4)", x.best(4), 33);
        due("best(5)", x.best(5), BAD);
        due("best(-1)", x.best(-1), BAD);
        due("nothing is changed", x.state(0) + x.state(2) + x.state(4), 0);
        promise = 25;
        due("ith(1, 0)", x.ith(1, 0), 1);
        due("ith(2, 0)", x.ith(2, 0), 1);
        due("ith(2, 1)", x.ith(2, 1), 2);
        due("ith(2, 2)", x.ith(2, 2), NONE);
        due("ith(0, 0)", x.ith(0, 0), NONE);
        due("ith(2, 4)", x.ith(2, 4), BAD);
        due("ith(2, -1)", x.ith(2, -1), BAD);
        due("ith(5, 0)", x.ith(5, 0), BAD);
        due("ith(-1, 0)", x.ith(-1, 0), BAD);
        promise = 26;
        due("ways(0)", x.ways(0), 1);
        due("ways(1)", x.ways(1), 1);
        // either one first
        due("ways(2)", x.ways(2), 2);
        due("ways(5)", x.ways(5), BAD);
        due("ways(-1)", x.ways(-1), BAD);
        byAllPlans(x);
        x.ends(1);
        promise = 24;
        due("best(4), one minute left", x.best(4), 13);
        promise = 25;
        due("ith(4, 0)", x.ith(4, 0), 1);
        due("ith(4, 1), one minute left", x.ith(4, 1), NONE);
        x.minute();
        due("ith(4, 0), over", x.ith(4, 0), NONE);
        promise = 26;
        due("ways(4), over", x.ways(4), 1);
        promise = 24;
        due("best(4), over", x.best(4), 0);
        PaneScenes dark = new PaneScenes();
        dark.pane(1, 0, 0);
        dark.pane(2, 0, 0);
        promise = 26;
        due("ways(4) of 3 acts, all worth nothing", dark.ways(4), 81);
        promise = 25;
        due("the first of these", dark.ith(4, 3), 0);
    }

    /** BEST, the FIRST of them and how many, by wouldBe() on every PLAN. */
    private static void byAllPlans(PaneScenes x) {
        int most = -1;
        int many = 0;
        int[] first = null;
        for (int code = 0; code < 27; code++) {
            int[] plan = {code / 9, code / 3 % 3, code % 3};
            int worth = wouldBe(x, plan);
            if (worth > most) {
                most = worth;
                many = 0;
                first = plan;
            }
            many += worth == most ? 1 : 0;
        }
        promise = 24;
        due("best(3) by all plans", x.best(3), most);
        promise = 25;
        for (int i = 0; i < 3; i++) {
            due("ith(3, " + i + ") by all plans", x.ith(3, i), first[i]);
        }
        promise = 26;
        due("ways(3) by all plans", x.ways(3), many);
    }

    private static void visitCalls() {
        promise = 27;
        PaneScenes x = twoLads();
        x.pane(1, 1, 2);
        due("visit(0, 0)", x.visit(0, 0), 0);
        due("visit(0, 1)", x.visit(0, 1), NONE);
        due("visit(4, 0)", x.visit(4, 0), 0);
        due("visit(4, 1)", x.visit(4, 1), 1);
        due("visit(1, 3)", x.visit(1, 3), NONE);
        due("visit(2, 3)", x.visit(2, 3), 2);
        due("visit(4, 4)", x.visit(4, 4), NONE);
        due("visit(4, 7)", x.visit(4, 7), NONE);
        due("visit(4, 8)", x.visit(4, 8), BAD);
        due("visit(4, -1)", x.visit(4, -1), BAD);
        due("visit(5, 0)", x.visit(5, 0), BAD);
        due("visit(-1, 0)", x.visit(-1, 0), BAD);
        x.change(0, 4, 1);
        due("visit(1, 3), one being shown", x.visit(1, 3), 1);
        due("visit(0, 1), shown", x.visit(0, 1), 0);
        x.change(0, 4, 0);
        // 4 lights less 2 rags never show
        x.ward(1, 0, 2);
        due("visit(4, 2) behind rags", x.visit(4, 2), NONE);
        PaneScenes four = new PaneScenes();
        for (int k = 0; k < 4; k++) {
            four.pane(4, 255, k);
        }
        due("visit(4, 15)", four.visit(4, 15), 4);
        due("visit(3, 15)", four.visit(3, 15), NONE);
        promise = 28;
        due("bars(4, 7)", x.bars(4, 7), 1);
        due("bars(4, 5)", x.bars(4, 5), 2);
        due("bars(4, 1)", x.bars(4, 1), NONE);
        due("bars(4, 0)", x.bars(4, 0), NONE);
        due("bars(0, 7)", x.bars(0, 7), 0);
        x.ward(1, 0, 0);
        due("bars(1, 3): each by one plan", x.bars(1, 3), NONE);
        due("bars(4, 8)", x.bars(4, 8), BAD);
        due("bars(4, -1)", x.bars(4, -1), BAD);
        due("bars(5, 0)", x.bars(5, 0), BAD);
        due("bars(-1, 0)", x.bars(-1, 0), BAD);
        x.change(2, 4, 1);
        due("bars(0, 4), shown", x.bars(0, 4), NONE);
        x.ends(1);
        x.minute();
        due("bars(4, 3), over", x.bars(4, 3), 1);
        promise = 27;
        due("visit(4, 1), over", x.visit(4, 1), 0);
        due("visit(4, 2), over", x.visit(4, 2), NONE);
    }

    private static void gameCalls() {
        promise = 29;
        PaneScenes x = twoLads();
        due("game(1)", x.game(1), 13);
        due("game(2), the other one tells none", x.game(2), 13);
        // 13, none, then of the lad's 4 lights 3 in fog 3: 8
        due("game(3)", x.game(3), 21);
        due("game(0)", x.game(0), BAD);
        due("game(5)", x.game(5), BAD);
        due("game(-1)", x.game(-1), BAD);
        promise = 30;
        due("play(1)", x.play(1), 1);
        due("play(3)", x.play(3), 1);
        due("play(0)", x.play(0), BAD);
        due("play(5)", x.play(5), BAD);
        PaneScenes dark = new PaneScenes();
        dark.pane(1, 0, 0);
        due("play(4), all the same", dark.play(4), 0);
        PaneScenes second = new PaneScenes();
        second.pane(4, 7, 0);
        second.pane(4, 127, 0);
        due("play(2), asked first", second.play(2), 2);
        // from minute 1 on the other one can hang rags for the navvy
        PaneScenes y = new PaneScenes();
        y.pane(4, 7, 0);
        y.pane(1, 127, 1);
        rules(y, "navvy if minute>0 rag;");
        promise = 29;
        due("game(4)", y.game(4), valueBy(y, 4));
        manyGames();
        promise = 29;
        x.ends(1);
        due("game(4), one minute left", x.game(4), 13);
        x.minute();
        due("game(4), over", x.game(4), 0);
        promise = 30;
        due("play(4), over", x.play(4), NONE);
        due("play(5), over", x.play(5), BAD);
    }

    /** Few pence and few looks, so that a look now costs one later. */
    private static void manyGames() {
        for (int i = 0; i < 12; i++) {
            PaneScenes x = new PaneScenes();
            x.pane(1 + i % 5, 255 - 9 * i, 0);
            x.pane(2 + i % 4, 63 + 11 * i, i % 2);
            x.pane(5 - i % 3, 31 + 5 * i, 2);
            x.lord(1, 9 + 3 * (i % 4));
            x.ward(i % 3, 1, 1);
            rules(x, i % 3 == 0 ? "lad if minute=1 rag; pane if fog>2 pass;" : i % 3 == 1 ? "sewer if lights>4 rag;" : "");
            int first = -1;
            int value = 0;
            for (int act = 0; act <= 3; act++) {
                int worth = valueBy(x, 3, act);
                if (first < 0 || worth > value) {
                    first = act;
                    value = worth;
                }
            }
            promise = 30;
            due("play(4) of game " + i, x.play(4), first);
            promise = 29;
            due("game(4) of game " + i, x.game(4), value);
            due("game(3) of game " + i, x.game(3), valueBy(x, 3));
        }
    }

    private static int valueBy(PaneScenes x, int n, int... done) {
        if (n == 0) {
            return wouldBe(x, done);
        }
        int value = 0;
        for (int act = 0; act <= x.many(0); act++) {
            int[] next = java.util.Arrays.copyOf(done, done.length + 1);
            next[done.length] = act;
            int worth = valueBy(x, n - 1, next);
            value = act == 0 ? worth : done.length % 2 == 0 ? Math.max(value, worth) : Math.min(value, worth);
        }
        return value;
    }

    private static void reportCalls() {
        promise = 31;
        PaneScenes x = new PaneScenes();
        int[][] wrong = {{-1, 0, 0, 1}, {16, 0, 0, 1}, {0, -1, 0, 1}, {0, 2, 0, 1}, {0, 0, -1, 1}, {0, 0, 0, 9}, {0, 1, 0, 16}, {0, 1, 3, 2},
            {0, 0, 9, 9}, {0, 1, 16, 16}, {0, 0, 1, -1}};
        for (int[] w : wrong) {
            due("a wrong report", x.report(w[0], w[1], w[2], w[3]), BAD);
        }
        due("many(3)", x.many(3), 0);
        due("report(0, 0, 0, 8)", x.report(0, 0, 0, 8), 0);
        due("report(15, 1, 0, 15)", x.report(15, 1, 0, 15), 1);
        for (int r = 2; r < 6; r++) {
            due("report(0, 1, 15, 15)", x.report(0, 1, 15, 15), r);
        }
        due("the seventh", x.report(0, 0, 0, 8), FULL);
        due("a wrong seventh", x.report(0, 0, 8, 0), BAD);
        promise = 32;
        due("forget()", x.forget(), 6);
        due("forget()", x.forget(), 0);
        due("many(3)", x.many(3), 0);
        due("report", x.report(0, 0, 0, 8), 0);
        x.forget();
        promise = 33;
        x.report(0, 0, 8, 8);
        due("one scene of each kind has 8 lights", x.who(0), 5);
        due("who(1)", x.who(1), 1);
        due("who(2)", x.who(2), 255);
        // behind minute 0: sewers and widows are dark
        x.report(1, 0, 0, 0);
        due("who(0)", x.who(0), 2);
        due("who(1)", x.who(1), 2);
        // behind minute 1 a widow has all of them again
        x.report(2, 1, 15, 15);
        due("who(0)", x.who(0), 1);
        due("who(1)", x.who(1), 3);
        due("who(2)", x.who(2), 255);
        due("who(3)", x.who(3), BAD);
        due("who(-1)", x.who(-1), BAD);
        x.report(15, 0, 8, 8);
        // a widow: dark behind odd counts of minutes
        due("who(0), none", x.who(0), 0);
        due("who(1), none", x.who(1), NONE);
        due("who(2), none", x.who(2), NONE);
        promise = 34;
        due("liar()", x.liar(), 1);
        x.forget();
        due("liar() of none", x.liar(), NONE);
        x.report(0, 0, 8, 8);
        due("liar(), some fit", x.liar(), NONE);
        x.report(0, 0, 0, 0);
        due("liar(), the least of two", x.liar(), 0);
        x.report(0, 0, 0, 0);
        due("liar(), the odd one", x.liar(), 0);
        x.report(0, 0, 8, 8);
        due("liar(), there is no such one", x.liar(), NONE);
        x.forget();
        // but for the third a dog's 0: 15 behind 3 minutes
        x.report(0, 0, 0, 0);
        x.report(3, 1, 15, 15);
        x.report(3, 0, 5, 5);
        x.report(0, 1, 0, 0);
        x.report(1, 1, 0, 0);
        x.report(2, 0, 0, 0);
        due("liar(), by a dog alone", x.liar(), 2);
        x.forget();
        // one light at 1 and none by a navvy's way at 8 behind two minutes; but one at 32 would come there
        x.report(0, 1, 1, 1);
        x.report(0, 0, 1, 1);
        x.report(1, 0, 1, 1);
        x.report(1, 1, 0, 0);
        x.report(2, 1, 8, 8);
        due("liar(), a navvy's 32 without the first", x.liar(), 0);
        promise = 33;
        due("who(0): 1 goes to 128, then to 64", x.who(0), 0);
        x.forget();
        x.report(0, 0, 2, 4);
        // 28 + 56 + 70 of each KIND
        due("who(0), from least to most", x.who(0), 5 * 154);
        x.report(0, 1, 3, 5);
        // lower halves 3 and 5 have two lights, 4 one: 1 + 4 + 6 each with two, 4 + 6 + 4 with one
        due("who(0), from least to most", x.who(0), 5 * (11 + 11 + 14));
        due("who(2)", x.who(2), 3);
        x.forget();
        promise = 34;
        x.report(0, 1, 1, 1);
        x.report(0, 1, 0, 1);
        x.report(0, 1, 2, 15);
        due("liar(), the last", x.liar(), 2);
        x.forget();
        // from 0 a widow has 255 behind 2 minutes; behind 3 a dog has 15, by the minute that leaves 2
        promise = 33;
        x.report(0, 0, 0, 0);
        x.report(2, 0, 8, 8);
        due("who(1)", x.who(1), 3);
        due("who(0)", x.who(0), 1);
        x.forget();
        x.report(0, 0, 0, 0);
        x.report(3, 1, 15, 15);
        due("who(1)", x.who(1), 5);
        due("who(2)", x.who(2), 0);
        due("who(0)", x.who(0), 1);
    }

    private static void lotCalls() {
        promise = 35;
        PaneScenes x = twoLads();
        due("seed(7)", x.seed(7), 1);
        due("seed(min)", x.seed(Integer.MIN_VALUE), 7);
        due("seed(0)", x.seed(0), Integer.MIN_VALUE);
        promise = 36;
        // 0 becomes 12345, whose upper half is 0: none is told
        due("lot()", x.lot(), 0);
        due("looked", x.paneOf(0, 2) + x.paneOf(1, 2), 0);
        due("minute", x.state(0), 1);
        promise = 35;
        due("seed", x.seed(1), 12345);
        promise = 36;
        // 1 becomes 1103527590; its upper half is 16838, which leaves 2 by 3
        due("lot()", x.lot(), 9);
        due("looked", x.paneOf(1, 2), 1);
        due("seed", x.seed(-1), 1103527590);
        // -1 becomes -1103502900; its upper half is 48697, which leaves 1
        due("lot()", x.lot(), 12);
        due("score", x.state(2), 21);
        due("seed", x.seed(5), -1103502900);
        x.ends(3);
        due("lot(), over", x.lot(), STATE);
        due("z as it was", x.seed(5), 5);
        promise = 37;
        due("times(3, 0), over", x.times(3, 0), 3);
        due("times(3, 1), over", x.times(3, 1), 0);
        PaneScenes y = twoLads();
        y.seed(9);
        int count = 0;
        int z = 9;
        for (int i = 0; i < 40; i++) {
            y.keep();
            y.seed(z);
            int worth = 0;
            while (y.state(3) == 0) {
                worth += y.lot();
            }
            z = y.seed(0);
            y.again();
            count += worth >= 25 ? 1 : 0;
        }
        due("times(40, 25) by lot()", y.times(40, 25), count);
        due("some are, some aren't", count > 0 && count < 40 ? 1 : 0, 1);
        due("z as it was", y.seed(9), 9);
        due("minute as it was", y.state(0), 0);
        for (int[] w : new int[][] {{0, 0}, {41, 0}, {1, -1}, {1, 1000}, {-1, 0}}) {
            due("wrong times", y.times(w[0], w[1]), BAD);
        }
        due("times(40, 999)", y.times(40, 999), 0);
        due("times(1, 0)", y.times(1, 0), 1);
        manyLots();
        PaneScenes none = new PaneScenes();
        promise = 36;
        due("lot() without panes", none.lot(), 0);
        due("z goes on", none.seed(0), 1103527590);
    }

    /** The ACTS of a row of lots, by goAll() of the same ACTS. */
    private static void manyLots() {
        promise = 36;
        for (int panes = 1; panes <= 6; panes++) {
            PaneScenes x = new PaneScenes();
            PaneScenes y = new PaneScenes();
            for (int k = 0; k < panes; k++) {
                x.pane(4, 255 - k, k);
                y.pane(4, 255 - k, k);
            }
            int z = 7 * panes;
            x.seed(z);
            for (int m = 0; m < 12; m++) {
                z = z * 1103515245 + 12345;
                sheetOf(y, 0, (z >>> 16) % (panes + 1));
                due("lot() " + m + " of " + panes + " panes", x.lot(), y.goAll(0, 0, 1));
                due("shown", x.state(4), y.state(4));
            }
            due("z", x.seed(0), z);
        }
    }

    private static void rowCalls() {
        promise = 38;
        PaneScenes x = twoLads();
        due("prove(2)", x.prove(2), 2);
        due("prove(5)", x.prove(5), BAD);
        due("prove(-1)", x.prove(-1), BAD);
        due("many(4)", x.many(4), 2);
        promise = 39;
        int[][] rows = {{1, 13, 1}, {2, 9, 3}};
        for (int k = 0; k < 2; k++) {
            for (int what = 0; what < 3; what++) {
                due("row(" + k + ", " + what + ")", x.row(k, what), rows[k][what]);
            }
        }
        for (int[] w : new int[][] {{2, 0}, {-1, 0}, {0, 3}, {0, -1}, {Integer.MAX_VALUE, 0}, {Integer.MIN_VALUE, 0}}) {
            due("a wrong row", x.row(w[0], w[1]), -9);
            promise = 40;
            due("a wrong alterRow", x.alterRow(w[0], w[1], 5), -9);
            promise = 39;
        }
        promise = 41;
        due("judge()", x.judge(), 0);
        promise = 40;
        for (int what = 0; what < 3; what++) {
            int was = rows[1][what];
            due("alterRow", x.alterRow(1, what, -77), was);
            due("row", x.row(1, what), -77);
            promise = 41;
            due("judge() of what " + what, x.judge(), 2);
            promise = 40;
            due("alterRow", x.alterRow(1, what, was), -77);
        }
        promise = 41;
        due("judge()", x.judge(), 0);
        x.alterRow(0, 0, 3);
        due("judge(), no such pane", x.judge(), 1);
        x.alterRow(0, 0, 0);
        due("judge(), worth nothing then", x.judge(), 1);
        x.alterRow(0, 1, 0);
        x.alterRow(0, 2, 0);
        due("judge(), shown 2 alone then", x.judge(), 2);
        x.alterRow(1, 2, 2);
        due("judge(), another right plan", x.judge(), 0);
        x.ends(1);
        due("judge(), over ahead of the second", x.judge(), 2);
        x.minute();
        due("judge(), over", x.judge(), 1);
        promise = 38;
        due("prove(4), over", x.prove(4), 0);
        promise = 41;
        due("judge() of no rows", x.judge(), 0);
        x.ends(3);
        promise = 38;
        due("prove(4), two left", x.prove(4), 2);
        due("prove(0)", x.prove(0), 0);
        promise = 39;
        due("row(0, 0) of none", x.row(0, 0), -9);
    }

    private static void sheetCalls() {
        promise = 42;
        PaneScenes x = new PaneScenes();
        due("sheet(0, 0, 40)", x.sheet(0, 0, 40), 1);
        due("sheet(3, 4, 0)", x.sheet(3, 4, 0), 1);
        for (int[] w : new int[][] {{-1, 0, 1}, {4, 0, 1}, {0, -2, 1}, {0, 5, 1}, {0, 0, 41}, {4, 0, -1}, {0, 5, -1}, {0, 3, Integer.MAX_VALUE}}) {
            due("a wrong sheet", x.sheet(w[0], w[1], w[2]), BAD);
        }
        due("sheet(0, 0, -1)", x.sheet(0, 0, -1), -14);
        due("sheet(0, 0, min)", x.sheet(0, 0, Integer.MIN_VALUE), -14);
        due("write(0, 39, 1)", x.write(0, 39, 1), 1);
        due("sheet(0, -1, -5)", x.sheet(0, -1, -5), 1);
        due("missing", x.item(0, 0, 39), -11);
        due("sheet(0, -1, 99)", x.sheet(0, -1, 99), 1);
        x.sheet(0, 0, 40);
        due("all 0 again", x.item(0, 0, 39), 0);
        promise = 43;
        int[] wide = {0x12345, 0x8081, -1, 128, 0};
        for (int sort = 0; sort < 5; sort++) {
            x.sheet(1, sort, 5);
            for (int i = 0; i < wide.length; i++) {
                due("write(1, i, wide)", x.write(1, i, wide[i]), 1);
                int v = wide[i];
                int narrow = sort == 0 ? (byte) v : sort == 1 ? (short) v : sort == 4 ? (v == 0 ? 0 : 1) : v;
                due("item of sort " + sort, x.item(1, sort, i), narrow);
            }
        }
        due("write(1, 5, 0)", x.write(1, 5, 0), -12);
        due("write(1, -1, 0)", x.write(1, -1, 0), -12);
        due("write(3, 0, 0), of no items", x.write(3, 0, 0), -12);
        due("write(2, 0, 0), missing", x.write(2, 0, 0), -11);
        due("write(4, 0, 0)", x.write(4, 0, 0), BAD);
        due("write(-1, 0, 0)", x.write(-1, 0, 0), BAD);
        promise = 44;
        x.sheet(1, 2, 2);
        x.write(1, 1, -13);
        due("an item as low as a refusal", x.item(1, 2, 1), -13);
        due("item(1, 0, 0)", x.item(1, 0, 0), -13);
        due("item(1, 3, 9)", x.item(1, 3, 9), -13);
        due("item(1, 2, 2)", x.item(1, 2, 2), -12);
        due("item(1, 2, -1)", x.item(1, 2, -1), -12);
        due("item(2, 4, 0)", x.item(2, 4, 0), -11);
        due("item(2, 4, -9)", x.item(2, 4, -9), -11);
        due("item(1, 5, 0)", x.item(1, 5, 0), BAD);
        due("item(1, -1, 0)", x.item(1, -1, 0), BAD);
        due("item(4, 0, 0)", x.item(4, 0, 0), BAD);
        due("item(-1, 0, 0)", x.item(-1, 0, 0), BAD);
        x.sheet(1, 0, 2);
        due("bytes aren't booleans", x.item(1, 4, 0), -13);
    }

    private static void goCalls() {
        promise = 45;
        PaneScenes x = twoLads();
        sheetOf(x, 0, 0, 1, 3, -1, 2);
        due("goAll(0, 0, 0)", x.goAll(0, 0, 0), 0);
        due("goAll(0, 99, 0)", x.goAll(0, 99, 0), 0);
        // FOG 1, 2: 8 + 5; what is no act is left out; then FOG 3: 4 lights less 1, and 5
        due("goAll(0, 0, 5)", x.goAll(0, 0, 5), 13 + 8);
        due("three minutes", x.state(0), 3);
        due("score", x.state(2), 21);
        due("goAll(0, 4, 2), one stood ahead", x.goAll(0, 4, 2), -12);
        due("it was done", x.state(0), 4);
        due("it was done", x.paneOf(1, 2), 2);
        due("goAll(0, -1, 2)", x.goAll(0, -1, 2), -12);
        due("goAll(0, max, 2)", x.goAll(0, Integer.MAX_VALUE, 2), -12);
        due("goAll(0, min, 20)", x.goAll(0, Integer.MIN_VALUE, 20), -12);
        due("nothing was", x.state(0), 4);
        x.ends(5);
        sheetOf(x, 0, 0, 1, 1);
        due("goAll(0, 0, 3), till it is over", x.goAll(0, 0, 3), 0);
        due("minute", x.state(0), 5);
        due("goAll(0, 2, 2), over", x.goAll(0, 2, 2), -12);
        due("goAll(0, 0, 21)", x.goAll(0, 0, 21), BAD);
        due("goAll(0, 0, -1)", x.goAll(0, 0, -1), BAD);
        due("goAll(4, 0, 0)", x.goAll(4, 0, 0), BAD);
        due("goAll(-1, 0, 0)", x.goAll(-1, 0, 0), BAD);
        due("goAll(1, 0, 0), missing", x.goAll(1, 0, 0), -11);
        x.sheet(1, 4, 3);
        due("goAll(1, 9, 1), booleans", x.goAll(1, 9, 1), -13);
        promise = 46;
        PaneScenes y = twoLads();
        sheetOf(y, 0, 0, 1, 2, 3, 1, 1);
        due("wouldBe(0, 0, 3)", y.wouldBe(0, 0, 3), 21);
        due("nothing is changed", y.state(0) + y.state(2) + y.state(4) + y.state(6), 0);
        due("wouldBe(0, 0, 4), no act", y.wouldBe(0, 0, 4), STATE);
        due("wouldBe(0, 4, 2)", y.wouldBe(0, 4, 2), 13 + 7);
        due("wouldBe(0, 4, 3)", y.wouldBe(0, 4, 3), -12);
        due("wouldBe(0, 2, 20), no act first", y.wouldBe(0, 2, 20), STATE);
        due("wouldBe(0, 50, 0)", y.wouldBe(0, 50, 0), 0);
        due("wouldBe(0, -1, 1)", y.wouldBe(0, -1, 1), -12);
        due("wouldBe(0, max, 20)", y.wouldBe(0, Integer.MAX_VALUE, 20), -12);
        y.ends(2);
        due("wouldBe(0, 0, 2)", y.wouldBe(0, 0, 2), 13);
        due("wouldBe(0, 0, 3), over", y.wouldBe(0, 0, 3), STATE);
        due("wouldBe(0, 4, 3), over after outside", y.wouldBe(0, 4, 3), -12);
        due("wouldBe(0, 0, 21)", y.wouldBe(0, 0, 21), BAD);
        due("wouldBe(0, 0, -1)", y.wouldBe(0, 0, -1), BAD);
        due("wouldBe(4, 0, 0)", y.wouldBe(4, 0, 0), BAD);
        due("wouldBe(1, 0, 0), missing", y.wouldBe(1, 0, 0), -11);
        y.sheet(1, 1, 3);
        due("wouldBe(1, 0, 0), shorts", y.wouldBe(1, 0, 0), -13);
    }

    private static void shelfCalls() {
        promise = 47;
        PaneScenes x = new PaneScenes();
        x.keep();
        x.pane(3, 1, 0);
        x.pane(5, 1, 0);
        for (int[] w : new int[][] {{-1, 0, 0}, {4, 0, 0}, {0, -1, 0}, {0, 3, 0}, {0, 0, 2}, {0, 0, -1}, {0, 1, 4}, {0, 1, -1}, {4, 2, 0}}) {
            due("a wrong shelf", x.shelf(w[0], w[1], w[2]), BAD);
        }
        due("shelf(0, 0, 0)", x.shelf(0, 0, 0), 1);
        due("shelf(1, 0, 1)", x.shelf(1, 0, 1), 1);
        x.sheet(2, 3, 7);
        due("shelf(2, 1, 2)", x.shelf(2, 1, 2), 1);
        due("shelf(3, 1, 0), missing", x.shelf(3, 1, 0), 1);
        promise = 48;
        // a widow is 0, 2, 3; a dog 0, 4, 5
        int[][] as = {{0, -13, 0, 0, -13, -13}, {1, -13, -13, -13, 1, 1}};
        for (int s = 0; s < 2; s++) {
            for (int kind = 0; kind < 6; kind++) {
                due("taken(" + s + ", " + kind + ")", x.taken(s, kind), as[s][kind]);
            }
            for (int sort = 10; sort < 15; sort++) {
                due("taken(" + s + ", " + sort + ")", x.taken(s, sort), -13);
            }
        }
        for (int kind = 0; kind < 6; kind++) {
            due("a row as a thing", x.taken(2, kind), -13);
            due("nothing as a thing", x.taken(3, kind), -11);
        }
        for (int sort = 10; sort < 15; sort++) {
            due("a row as sort " + sort, x.taken(2, sort), sort == 13 ? 7 : -13);
            due("nothing as sort " + sort, x.taken(3, sort), -11);
        }
        for (int wrong : new int[] {-1, 6, 9, 15, Integer.MAX_VALUE, Integer.MIN_VALUE}) {
            due("taken(0, " + wrong + ")", x.taken(0, wrong), BAD);
        }
        due("taken(4, 0)", x.taken(4, 0), BAD);
        due("taken(-1, 0)", x.taken(-1, 0), BAD);
        x.sheet(2, 0, 3);
        due("the shelf holds the row that it took", x.taken(2, 13), 7);
        x.sheet(2, -1, 0);
        due("the shelf holds the row that it took", x.taken(2, 13), 7);
        promise = 47;
        due("shelf(2, 1, 2), missing now", x.shelf(2, 1, 2), 1);
        due("nothing", x.taken(2, 13), -11);
        due("shelf(0, 2, 77)", x.shelf(0, 2, 77), 1);
        due("nothing", x.taken(0, 0), -11);
        x.remake(1, 1);
        due("remade on the shelf", x.taken(1, 1), 1);
        due("remade on the shelf", x.taken(1, 5), -13);
        x.again();
        due("no such pane at the time", x.taken(1, 0), -11);
        due("no such pane at the time", x.act(1, 0, 5), 0);
        x.pane(1, 0, 0);
        x.pane(2, 0, 0);
        due("one of that number", x.taken(1, 2), 1);
    }

    private static String traced(PaneScenes x) {
        StringBuilder s = new StringBuilder();
        for (int i = 0; i < x.many(6); i++) {
            s.append(i == 0 ? "" : " ").append(x.trace(i));
        }
        return s.toString();
    }

    private static void acts(PaneScenes x, int k, int act, int with, int want, String trace) {
        promise = 49;
        x.shelf(0, 0, k);
        due("act " + act + " of pane " + k + " with " + with, x.act(0, act, with), want);
        promise = 50;
        due("trace of it, " + traced(x) + " for " + trace, traced(x).equals(trace) ? 1 : 0, 1);
        due("trace behind it", x.trace(x.many(6)), NONE);
    }

    private static void actCalls() {
        PaneScenes x = new PaneScenes();
        int[] wards = {2, 3, 1, 0, 4, 3};
        for (int kind = 1; kind <= 5; kind++) {
            x.pane(kind, 0, wards[kind - 1]);
        }
        x.pane(1, 0, 3);
        // PANE 0, navvy, n 0, a 2: parted by 0 - 4 + 1 = -3
        acts(x, 0, 0, 10, 10 ^ 21, "20 10");
        acts(x, 0, 1, 10, (10 ^ 21) ^ 4, "11 20 10");
        acts(x, 0, 2, 10, 1, "12");
        acts(x, 0, 2, -10, -1, "12");
        acts(x, 0, 3, 10, ((10 ^ 21) ^ 4) - 1, "13 11 20 10 12");
        // PANE 1, sewer, n 1, a 3: parted by -4
        acts(x, 1, 0, 5, 8, "10");
        acts(x, 1, 1, 5, (5 - 1 + 3) ^ 6, "30 11 10");
        acts(x, 1, 3, 5, ((5 - 1 + 3) ^ 6) - 1, "13 30 11 10 12");
        // PANE 2, widow, n 2, a 1: parted by 1
        acts(x, 2, 0, 5, 5 + 6 - 1, "50 10");
        acts(x, 2, 1, 5, (3 + 6 - 1) ^ 2, "30 11 50 10");
        acts(x, 2, 3, 5, (((3 + 6 - 1) ^ 2) - 0) ^ ((0 + 6 - 1) ^ 2), "51 13 30 11 50 10 12 30 11 50 10");
        // PANE 3, lad, n 3, a 0: parted by 4
        acts(x, 3, 2, 7, 9, "40 12");
        acts(x, 3, 2, -7, -9, "40 12");
        acts(x, 3, 3, 7, (7 + 9) - 9, "13 11 10 40 12");
        // PANE 4, dog, n 4, a 4: parted by -3
        acts(x, 4, 0, 7, 19, "10");
        acts(x, 4, 1, 7, (19 ^ 8) + 9, "60 11 10");
        acts(x, 4, 2, 7, 3 - 16, "61 40 12 10");
        acts(x, 4, 3, 7, ((19 ^ 8) + 9) - (3 - 16), "13 60 11 10 61 40 12 10");
        // PANE 5, n 5, a 3: parted by 0
        acts(x, 5, 0, 1, 16 ^ 21, "20 10");
        acts(x, 5, 2, 1, -15, "12");
        acts(x, 5, 3, 1, -15, "13 11 20 10 12");
        x.remake(5, 5);
        acts(x, 5, 2, 1, -15, "61 40 12");
        acts(x, 5, 3, 1, -15, "13 60 11 10 61 40 12");
        x.remake(5, 3);
        acts(x, 5, 3, 1, -15, "51 13 30 11 50 10 12");
        acts(x, 0, 0, Integer.MAX_VALUE, Integer.MAX_VALUE ^ 21, "20 10");
        acts(x, 1, 0, Integer.MAX_VALUE, Integer.MIN_VALUE + 2, "10");
        x.change(1, 3, 1);
        // n 1, a 1: by 0; n 2, a 2: by -1
        acts(x, 1, 2, 5, -15, "12");
        x.change(2, 3, 2);
        acts(x, 2, 2, Integer.MIN_VALUE, 0, "12");
        noActs(x);
    }

    private static void noActs(PaneScenes x) {
        promise = 49;
        x.sheet(0, 0, 3);
        x.shelf(1, 1, 0);
        int[][] none = {{-1, 0}, {4, 0}, {0, -1}, {0, 4}, {1, 0}, {2, 0}};
        for (int[] w : none) {
            x.shelf(0, 0, 0);
            x.act(0, 0, 1);
            due("a trace", x.many(6), 2);
            due("act(" + w[0] + ", " + w[1] + ", 5)", x.act(w[0], w[1], 5), 0);
            due("no trace then", x.many(6), 0);
            promise = 50;
            due("no trace then", x.trace(0), NONE);
            promise = 49;
        }
        promise = 50;
        x.act(0, 0, 1);
        due("trace(-1)", x.trace(-1), NONE);
        due("trace(2)", x.trace(2), NONE);
        due("trace(max)", x.trace(Integer.MAX_VALUE), NONE);
        due("trace(1)", x.trace(1), 10);
    }

    private static void manyCalls() {
        promise = 51;
        PaneScenes x = twoLads();
        rules(x, "dog look;dog pass;dog rag;");
        x.change(1, 4, 1);
        x.report(0, 0, 0, 0);
        x.report(0, 0, 0, 0);
        x.prove(4);
        x.feed(0, 5);
        x.shelf(0, 0, 0);
        x.act(0, 3, 0);
        int[] many = {2, 3, 1, 2, 4, 5, 5};
        for (int what = 0; what < many.length; what++) {
            due("many(" + what + ")", x.many(what), many[what]);
        }
        due("many(7)", x.many(7), BAD);
        due("many(-1)", x.many(-1), BAD);
    }

    private static void keptCalls() {
        promise = 52;
        PaneScenes x = twoLads();
        rules(x, "lad if fog>8 pass;");
        x.report(1, 1, 2, 3);
        x.news(5, 7);
        x.ward(3, 0, 4);
        x.ward(3, 1, 8);
        x.ends(10);
        x.minute();
        x.seed(99);
        due("keep()", x.keep(), 1);
        int[] state = new int[8];
        for (int what = 0; what < 8; what++) {
            state[what] = x.state(what);
        }
        int scene = x.paneOf(1, 1);
        due("a score", state[2] > 0 ? 1 : 0, 1);
        int strangers = x.who(0);
        x.seed(3);
        rules(x, "dog look; dog look;");
        x.forget();
        x.report(0, 0, 0, 8);
        x.news(5, 1);
        x.ward(3, 0, 0);
        x.ward(3, 1, 1);
        x.pane(1, 2, 3);
        x.change(1, 1, 200);
        x.change(0, 3, 4);
        x.change(0, 2, 7);
        x.remake(0, 1);
        x.lord(0, 9);
        x.lord(1, 1);
        x.minute();
        x.ends(16);
        x.feed('d', 1);
        x.prove(2);
        x.sheet(1, 2, 9);
        x.shelf(2, 1, 1);
        x.shelf(1, 0, 0);
        x.act(1, 0, 0);
        promise = 53;
        due("again()", x.again(), 2);
        for (int what = 0; what < 8; what++) {
            due("state(" + what + ")", x.state(what), state[what]);
        }
        due("panes", x.many(0), 2);
        due("rules", x.many(1), 1);
        due("reports", x.many(3), 1);
        due("strangers by the report kept", x.who(0), strangers);
        due("scene", x.paneOf(1, 1), scene);
        due("ward", x.paneOf(0, 3), 0);
        due("looked", x.paneOf(0, 2), 1);
        due("kind", x.paneOf(0, 0), 4);
        due("rags", x.wardOf(3, 0), 4);
        due("bears", x.wardOf(3, 1), 8);
        due("news", x.news(5, 2), 7);
        due("z", x.seed(4), 99);
        x.lord(0, 9);
        due("will by the rules kept", x.paneOf(0, 8), 1);
        promise = 52;
        due("the tape isn't", x.many(5), 1);
        due("rows aren't", x.many(4), 2);
        due("sheets aren't", x.item(1, 2, 8), 0);
        due("shelves aren't", x.taken(2, 12), 9);
        due("the trace isn't", x.many(6), 2);
        promise = 53;
        x.forget();
        rules(x, "");
        x.minute();
        due("again(), it stays", x.again(), 2);
        due("minute", x.state(0), 1);
        due("reports", x.many(3), 1);
        due("rules", x.many(1), 1);
        due("z", x.seed(1), 99);
        x.pane(5, 5, 5);
        promise = 52;
        due("keep()", x.keep(), 1);
        x.pane(5, 5, 5);
        promise = 53;
        due("again(), the latest", x.again(), 3);
        due("z of the latest", x.seed(0), 1);
    }

    /** Numbers far out, at every place where one is asked for, are refused as near ones are. */
    private static void farNumbers() {
        PaneScenes x = five();
        for (int far : FAR) {
            int[][] answers = {{2, x.pane(far, 1, 1)}, {2, x.pane(1, far, 1)}, {2, x.pane(1, 1, far)}, {3, x.paneOf(far, 0)}, {3, x.paneOf(0, far)},
                {4, x.change(far, 1, 1)}, {4, x.change(0, far, 1)}, {4, x.change(0, 1, far)}, {5, x.remake(far, 1)}, {5, x.remake(0, far)},
                {6, x.news(far, 0)}, {6, x.news(0, far)}, {7, x.ward(far, 0, 0)}, {7, x.ward(0, far, 0)}, {7, x.ward(0, 0, far)},
                {8, x.wardOf(far, 0)}, {8, x.wardOf(0, far)}, {9, x.lord(far, 0)}, {9, x.lord(0, far)}, {10, x.ends(far)}, {12, x.state(far)},
                {13, x.feed(0, far)}, {16, x.on(far)}, {17, x.when(far)}, {18, x.sceneFor(far)}, {19, x.wardFor(far)}, {20, x.dark(far)},
                {21, x.back(far)}, {22, x.companies(far)}, {23, x.tour(far, 0)}, {23, x.tour(0, far)}, {24, x.best(far)}, {25, x.ith(far, 0)},
                {25, x.ith(0, far)}, {26, x.ways(far)}, {27, x.visit(far, 0)}, {27, x.visit(0, far)}, {28, x.bars(far, 0)}, {28, x.bars(0, far)},
                {29, x.game(far)}, {30, x.play(far)}, {31, x.report(far, 0, 0, 0)}, {31, x.report(0, far, 0, 0)}, {31, x.report(0, 0, far, 8)},
                {31, x.report(0, 0, 0, far)}, {33, x.who(far)}, {37, x.times(far, 0)}, {37, x.times(1, far)}, {38, x.prove(far)},
                {42, x.sheet(far, 0, 0)}, {42, x.sheet(0, far, 0)}, {43, x.write(far, 0, 0)}, {44, x.item(far, 0, 0)}, {44, x.item(0, far, 0)},
                {45, x.goAll(far, 0, 0)}, {45, x.goAll(0, 0, far)}, {46, x.wouldBe(far, 0, 0)}, {46, x.wouldBe(0, 0, far)}, {47, x.shelf(far, 2, 0)},
                {47, x.shelf(0, far, 0)}, {47, x.shelf(0, 0, far)}, {47, x.shelf(0, 1, far)}, {48, x.taken(far, 0)}, {48, x.taken(0, far)}, {51, x.many(far)}};
            for (int[] a : answers) {
                promise = a[0];
                due("a call with " + far, a[1], BAD);
            }
        }
    }

    public static void main(String[] args) {
        newObject();
        paneCalls();
        paneOfCalls();
        changeCalls();
        remakeCalls();
        newsCalls();
        wardCalls();
        lordCalls();
        anewCalls();
        stateCalls();
        feedCalls();
        ruleFaults();
        ruleMeanings();
        minuteCalls();
        restCalls();
        forCalls();
        darkCalls();
        companyCalls();
        tourCalls();
        planCalls();
        visitCalls();
        gameCalls();
        reportCalls();
        lotCalls();
        rowCalls();
        sheetCalls();
        goCalls();
        shelfCalls();
        actCalls();
        manyCalls();
        keptCalls();
        farNumbers();
        for (int p = 1; p <= 53; p++) {
            if (!checks.containsKey(p)) {
                failed++;
                System.out.println("promise " + p + " has no check");
            }
        }
        System.out.println("PromisesTest: " + passed + " passed, " + failed + " failed");
        if (failed > 0) {
            System.exit(1);
        }
    }
}
