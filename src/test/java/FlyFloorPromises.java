/** Each promise by hand: ordinary inputs, the edges that the document names, wrong inputs. */
public final class FlyFloorPromises {
    private static final int UNKNOWN = -1, OUTSIDE = -2, STATE = -3, FULL = -4, NONE = -9;
    private static final int NULL = -11, CAST = -12, INDEX = -13, SIZE = -14;
    private static final int MIN = Integer.MIN_VALUE, MAX = Integer.MAX_VALUE;
    /** HANDS 3, TRIM 5, STOCK 4; PULLS 0, 1, 2, 0, 1. */
    private static final String FIVE = "f354;l3301;a6492;w2793;l5500;a8611";

    private static int wrong = 0;
    private static String part = "";

    private static void due(String call, long got, long want) {
        if (got != want) {
            wrong++;
            System.out.println(part + ": " + call + " answered " + got + ", due is " + want);
        }
    }

    private static void write(FlyFloor x, int sheet, int lane, String text) {
        x.sheet(sheet, lane, text.length());
        for (int i = 0; i < text.length(); i++) {
            x.put(sheet, i, text.charAt(i));
        }
    }

    private static int read(FlyFloor x, String text) {
        write(x, 0, 0, text);
        return x.loft(0, 0, 0, text.length());
    }

    private static FlyFloor with(String text) {
        FlyFloor x = new FlyFloor();
        int count = read(x, text);
        if (count < 2) {
            wrong++;
            System.out.println(part + ": the text " + text + " was not taken: " + count);
        }
        return x;
    }

    /** SHEET 1 gets these numbers, as ints. */
    private static void pairs(FlyFloor x, int... cells) {
        x.sheet(1, 2, cells.length);
        for (int i = 0; i < cells.length; i++) {
            x.put(1, i, cells[i]);
        }
    }

    private static int cue(FlyFloor x, int... cells) {
        pairs(x, cells);
        return x.cue(1, 2, 0, cells.length / 2);
    }

    private static int act(FlyFloor x, int what, int... cells) {
        pairs(x, cells);
        return x.act(1, 2, 0, cells.length / 2, what);
    }

    private static int crew(FlyFloor x, int... cells) {
        pairs(x, cells);
        return x.crew(1, 2, 0, cells.length / 2);
    }

    /** The number of CUES and the row, as digits: 2010 for two of them in the row 0 1 0. */
    private static int split(FlyFloor x, int... cells) {
        pairs(x, cells);
        int n = cells.length / 2;
        int all = x.split(1, 2, 0, n, -1);
        for (int k = 0; k < n && all > 0; k++) {
            all = 10 * all + x.split(1, 2, 0, n, k);
        }
        return all;
    }

    private static int heights(FlyFloor x) {
        int all = 0;
        for (int b = 0; b < x.many(0); b++) {
            all = 10 * all + x.ofBatten(b, 3);
        }
        return all;
    }

    private static void aNewObject() {
        part = "promise 1";
        FlyFloor x = new FlyFloor();
        for (int what = 0; what <= 5; what++) {
            due("many(" + what + ")", x.many(what), 0);
        }
        for (int k = 0; k < 4; k++) {
            due("lose(" + k + ")", x.lose(k), 0);
        }
        due("fault()", x.fault(), 0);
        due("trace()", x.trace(), 0);
        due("seen()", x.seen(), STATE);
        due("UNKNOWN", FlyFloor.UNKNOWN, -1);
        due("OUTSIDE", FlyFloor.OUTSIDE, -2);
        due("STATE", FlyFloor.STATE, -3);
        due("FULL", FlyFloor.FULL, -4);
        due("NONE", FlyFloor.NONE, -9);
        due("LOST", FlyFloor.LOST, Long.MIN_VALUE);
    }

    private static void texts() {
        part = "promise 2, texts";
        FlyFloor x = new FlyFloor();
        String one = ";l0000";
        due("two", read(x, "f110;l0000;a9993"), 2);
        due("eight", read(x, "f699" + one.repeat(8)), 8);
        due("a ninth", read(x, "f699" + one.repeat(8) + ";"), -152);
        due("a ninth, another code", read(x, "f699" + one.repeat(8) + "l"), -152);
        due("all codes are looked at in order", read(x, "f699" + one.repeat(8) + ";l00009"), -152);
        due("the last that was taken stands", x.many(0), 8);
        due("none", read(x, ""), -100);
        due("g", read(x, "g"), -100);
        due("f", read(x, "f"), -101);
        due("HANDS 0", read(x, "f0"), -101);
        due("HANDS 7", read(x, "f7"), -101);
        due("TRIM 0", read(x, "f10"), -102);
        due("STOCK", read(x, "f11x"), -103);
        due("no ;", read(x, "f110l"), -104);
        due("kind", read(x, "f110;x"), -105);
        due("LOAD", read(x, "f110;l/"), -106);
        due("BRICKS", read(x, "f110;l0:"), -107);
        due("HEIGHT", read(x, "f110;l00a"), -108);
        due("DROP", read(x, "f110;l0004"), -109);
        due("one BATTEN", read(x, "f110" + one), -110);
        due("behind one BATTEN", read(x, "f110" + one + "l"), -110);
        due("behind two", read(x, "f110" + one + one + "l"), -116);
        due("two and a ;", read(x, "f110" + one + one + ";"), -117);
        due("two and a half", read(x, "f110" + one + one + ";w12"), -120);
        due("the last that was taken stands", x.many(1) * 100 + x.many(2) * 10 + x.many(3), 699);
    }

    private static void textsInSheets() {
        part = "promise 2, cells";
        FlyFloor x = new FlyFloor();
        due("nothing", x.loft(0, 1, 0, 0), NULL);
        due("nothing, SIZE", x.loft(0, 1, 0, -1), NULL);
        due("fault", x.fault(), 1);
        write(x, 3, 1, "xxf354;l3301;a6492");
        due("a row of shorts", x.loft(3, 1, 2, 16), 2);
        due("fault", x.fault(), 0);
        due("CAST ahead of SIZE", x.loft(3, 2, 2, -1), CAST);
        due("fault", x.fault(), 2);
        due("refused", x.loft(4, 1, 2, 16), UNKNOWN);
        due("fault of a refusal", x.fault(), 0);
        due("sheet -1", x.loft(-1, 9, 2, 16), UNKNOWN);
        due("lane 3", x.loft(3, 3, 2, 16), OUTSIDE);
        due("lane -1", x.loft(0, -1, 2, 16), OUTSIDE);
        due("SIZE ahead of INDEX", x.loft(3, 1, -1, -1), SIZE);
        due("fault", x.fault(), 4);
        due("beyond", x.loft(3, 1, 3, 16), INDEX);
        due("fault", x.fault(), 3);
        due("i below", x.loft(3, 1, -1, 16), INDEX);
        due("none, below", x.loft(3, 1, -1, 0), INDEX);
        due("none at the end", x.loft(3, 1, 18, 0), -100);
        due("fault of a text", x.fault(), 0);
        due("none, beyond", x.loft(3, 1, 19, 0), INDEX);
        due("far", x.loft(3, 1, MAX, MAX), INDEX);
        due("far below", x.loft(3, 1, MIN, MAX), INDEX);
        due("far size", x.loft(3, 1, 0, MIN), SIZE);
        due("many(0)", x.many(0), 2);
        x.put(3, 2, 'f' + 65536);
        due("what comes to a cell is cut", x.loft(3, 1, 2, 16), 2);
        write(x, 2, 2, "f354;l3301;a6492");
        x.put(2, 0, 'f' + 256);
        due("an int is not", x.loft(2, 2, 0, 16), -100);
    }

    private static void textMakesAnew() {
        part = "promise 2, anew";
        FlyFloor x = with(FIVE);
        x.fly(0, 9);
        x.keep(0);
        x.reading(0, 1, 0);
        x.tell(0);
        due("refused text", read(x, "f"), -101);
        due("UNDONE", x.many(4), 1);
        due("READINGS", x.many(5), 1);
        due("two", read(x, "f219;w1233;a5673"), 2);
        due("UNDONE", x.many(4), 0);
        due("READINGS", x.many(5), 0);
        due("undo", x.undo(), STATE);
        due("IMAGE", x.restore(0), STATE);
        due("one IMAGE", x.keep(1), 1);
        due("HANDS", x.many(1), 2);
        due("TRIM", x.many(2), 1);
        due("STOCK", x.many(3), 9);
        due("SHEETS stay", x.cell(0, 0, 0), 'f');
        due("TRACE stays", x.trace(), 1);
        due("the third is gone", x.ofBatten(2, 0), UNKNOWN);
    }

    private static void ofBattens() {
        part = "promise 3";
        FlyFloor x = with("f354;l0901;a0902;w0943;a5533;a5620;w5400;w9000");
        int[][] wanted = {
            {0, 0, 9, 0, 1, 9, 0}, {1, 0, 9, 0, 2, 8, 0}, {2, 0, 9, 4, 3, 4, 1},
            {1, 5, 5, 3, 3, 0, 0}, {1, 5, 6, 2, 0, 0, 2}, {2, 5, 4, 0, 0, 0, 0},
            {2, 9, 0, 0, 0, 4, 0},
        };
        for (int b = 0; b < wanted.length; b++) {
            for (int what = 0; what <= 6; what++) {
                due("ofBatten(" + b + ", " + what + ")", x.ofBatten(b, what), wanted[b][what]);
            }
        }
        due("what -1", x.ofBatten(0, -1), OUTSIDE);
        due("what 7", x.ofBatten(0, 7), OUTSIDE);
        due("what MAX", x.ofBatten(0, MAX), OUTSIDE);
        due("no BATTEN", x.ofBatten(7, 7), UNKNOWN);
        due("BATTEN -1", x.ofBatten(-1, 0), UNKNOWN);
        due("no LOFT", new FlyFloor().ofBatten(0, 0), UNKNOWN);
    }

    private static void seenAndHides() {
        part = "promises 4, 5";
        FlyFloor x = with("f354;l0050;l0051;l0062;l0030;l0031;l0000");
        // EDGES 5 4 4 3 2 0, TRIM 5
        due("seen", x.seen(), 0b111010);
        int[] hiders = {NONE, NONE, 1, NONE, NONE, NONE};
        for (int b = 0; b < 6; b++) {
            due("hides(" + b + ")", x.hides(b), hiders[b]);
        }
        due("hides(6)", x.hides(6), UNKNOWN);
        due("hides(-1)", x.hides(-1), UNKNOWN);
        x.trim(9);
        due("seen, TRIM 9", x.seen(), 0b111011);
        x.trim(1);
        due("seen, TRIM 1", x.seen(), 0b100000);
        due("an EDGE of TRIM is not hidden", x.hides(2), NONE);
        FlyFloor y = with("f354;l0000;l0000;l0010");
        due("of two alike the foremost", y.seen(), 1);
        due("the least hides it", y.hides(2), 0);
        due("alike hides", y.hides(1), 0);
        due("none", with("f354;l0090;l0050").seen(), 0);
        due("no LOFT", new FlyFloor().seen(), STATE);
        due("no LOFT, hides", new FlyFloor().hides(0), UNKNOWN);
    }

    private static void hireAndTrim() {
        part = "promises 6, 7";
        FlyFloor x = with(FIVE);
        due("hire(1)", x.hire(1), 3);
        due("hire(6)", x.hire(6), 1);
        due("hire(0)", x.hire(0), OUTSIDE);
        due("hire(7)", x.hire(7), OUTSIDE);
        due("HANDS", x.many(1), 6);
        due("trim(9)", x.trim(9), 5);
        due("trim(1)", x.trim(1), 9);
        due("trim(0)", x.trim(0), OUTSIDE);
        due("trim(10)", x.trim(10), OUTSIDE);
        due("TRIM", x.many(2), 1);
        due("nothing to be UNDONE", x.many(4), 0);
        FlyFloor y = new FlyFloor();
        due("OUTSIDE ahead of STATE", y.hire(0), OUTSIDE);
        due("no LOFT", y.hire(3), STATE);
        due("OUTSIDE ahead of STATE", y.trim(0), OUTSIDE);
        due("no LOFT", y.trim(3), STATE);
        due("HANDS without a LOFT", y.many(1) + y.many(2), 0);
    }

    private static void flying() {
        part = "promise 8";
        FlyFloor x = with(FIVE);
        due("no BATTEN", x.fly(5, 10), UNKNOWN);
        due("HEIGHT 10", x.fly(0, 10), OUTSIDE);
        due("HEIGHT -1", x.fly(0, -1), OUTSIDE);
        due("UNDONE", x.many(4), 0);
        due("it stays", x.fly(0, 0), 0);
        due("UNDONE", x.many(4), 1);
        due("it meets its neighbour", x.fly(0, 9), 9);
        due("from beside its neighbour", x.fly(1, 0), 9);
        due("to beside it", x.fly(1, 9), 9);
        due("from it", x.fly(0, 4), 5);
        due("it FOULS the one ahead", x.fly(1, 3), STATE);
        due("not yet", x.fly(1, 4), 5);
        due("it FOULS nothing without a DROP", x.fly(2, 0), STATE);
        due("heights", heights(x), 44901);
        FlyFloor y = with("f254;l3000;l0000;l2030;l0210");
        due("PULL of 3 with 2 HANDS", y.fly(0, 1), STATE);
        due("but it may stay", y.fly(0, 0), 0);
        due("PULL of 2", y.fly(2, 0), 3);
        due("no DROPS, no FOULS", y.fly(3, 0) + y.fly(3, 9), 10);
        due("no LOFT", new FlyFloor().fly(0, 0), UNKNOWN);
    }

    private static void cues() {
        part = "promise 9";
        FlyFloor x = with(FIVE);
        due("none", cue(x), 0);
        due("two", cue(x, 0, 9, 4, 0), 9);
        due("HANDS are too few: 1 and 2 and 1", cue(x, 1, 0, 2, 0, 4, 5), STATE);
        due("one of them stays", cue(x, 1, 0, 2, 0, 4, 0), 9);
        due("a BATTEN in two", cue(x, 3, 1, 3, 1), STATE);
        due("no BATTEN behind one in two", cue(x, 3, 1, 3, 1, 5, 1), UNKNOWN);
        due("no HEIGHT behind one in two", cue(x, 3, 1, 3, 1, 1, 10), OUTSIDE);
        due("pair by pair", cue(x, 0, 10, 5, 1), OUTSIDE);
        due("pair by pair", cue(x, -1, 10, 0, 10), UNKNOWN);
        due("HEIGHT -1", cue(x, 1, -1), OUTSIDE);
        due("heights", heights(x), 90000);
        due("UNDONE", x.many(4), 3);
        FlyFloor y = with("f654;l0021;l0051;l0001;l0000;l0001");
        due("they go past one another", cue(y, 0, 6, 1, 3), STATE);
        due("they go together", cue(y, 0, 3, 1, 7), 2);
        due("one over both", cue(y, 1, 0, 2, 1), STATE);
        due("none lies between", cue(y, 2, 9, 4, 5), STATE);
        due("past one without a DROP", cue(y, 3, 9, 2, 7), 9);
        due("all", cue(y, 0, 1, 1, 1, 2, 1, 3, 1, 4, 1), 8);
        due("heights", heights(y), 11111);
    }

    private static void cuesInSheets() {
        part = "promise 9, cells";
        FlyFloor x = new FlyFloor();
        due("nothing", x.cue(1, 2, 0, 9), OUTSIDE);
        due("nothing", x.cue(1, 2, 0, 8), NULL);
        due("fault", x.fault(), 1);
        pairs(x, 7, 0, 9, 4, 0);
        due("INDEX ahead of STATE", x.cue(1, 2, 2, 2), INDEX);
        due("fault", x.fault(), 3);
        due("no LOFT ahead of its pairs", x.cue(1, 2, 0, 2), STATE);
        due("fault of a refusal", x.fault(), 0);
        read(x, FIVE);
        due("from 1 on", x.cue(1, 2, 1, 2), 9);
        due("CAST", x.cue(1, 1, 99, 2), CAST);
        due("fault", x.fault(), 2);
        due("none of it at the end", x.cue(1, 2, 5, 0), 0);
        due("none of it beyond", x.cue(1, 2, 6, 0), INDEX);
        due("none of it below", x.cue(1, 2, -1, 0), INDEX);
        due("n -1", x.cue(1, 2, 0, -1), OUTSIDE);
        due("n MAX", x.cue(1, 2, 0, MAX), OUTSIDE);
        due("lane", x.cue(1, 3, 0, 1), OUTSIDE);
        due("sheet 4", x.cue(4, 3, 0, 99), UNKNOWN);
        due("far", x.cue(1, 2, MAX, 8), INDEX);
        due("far below", x.cue(1, 2, MIN, 8), INDEX);
        due("UNDONE", x.many(4), 2);
    }

    private static void hanging() {
        part = "promise 10";
        FlyFloor x = with("f254;l3501;a3620;w0000");
        due("it does not: 5 above 3", x.hang(0, 3), 0);
        due("UNDONE, LOAD as it was", x.many(4), 1);
        due("5 above 2", x.hang(0, 2), 1);
        due("it is up", heights(x), 920);
        due("it is not at 0", x.hang(0, 9), STATE);
        due("nor this", x.hang(1, 9), STATE);
        due("undo", x.undo(), 1);
        due("LOAD", x.ofBatten(0, 1), 3);
        due("HEIGHT", x.ofBatten(0, 3), 0);
        due("LOAD above BRICKS", x.hang(2, 9), 0);
        due("LOAD", x.ofBatten(2, 1), 9);
        due("-1", x.hang(0, -1), OUTSIDE);
        due("10", x.hang(1, 10), OUTSIDE);
        due("no BATTEN", x.hang(3, 10), UNKNOWN);
        due("no BATTEN", x.hang(-1, 1), UNKNOWN);
        FlyFloor y = with("f154;w0900;a0200");
        due("a WINCH, as heavy as it was", y.hang(0, 0), 1);
        due("an ARBOR, by its BRICKS alone", y.hang(1, 0), 1);
    }

    private static void bricking() {
        part = "promise 11";
        FlyFloor x = with("f254;l3501;a3620;w0000");
        due("more than there are", x.brick(2, 5), STATE);
        due("as many as there are", x.brick(2, 4), 1);
        due("STOCK", x.many(3), 0);
        due("undo", x.undo(), 0);
        due("fewer than there are", x.brick(2, 2), 0);
        due("STOCK", x.many(3), 2);
        due("3 above 0", x.brick(2, 3), 1);
        due("STOCK", x.many(3), 1);
        due("not at 0", x.brick(2, 0), STATE);
        due("all back", x.brick(0, 0), 0);
        due("STOCK", x.many(3), 6);
        due("undo", x.undo(), 2);
        due("STOCK", x.many(3), 1);
        due("BRICKS", x.ofBatten(0, 2), 5);
        due("undo", x.undo(), 1);
        due("STOCK", x.many(3), 2);
        due("it is down", x.ofBatten(2, 3), 0);
        due("none moved", x.brick(0, 5), 0);
        due("UNDONE", x.many(4), 2);
        due("-1", x.brick(0, -1), OUTSIDE);
        due("10", x.brick(1, 10), OUTSIDE);
        due("no BATTEN", x.brick(3, 10), UNKNOWN);
        due("no BATTEN", x.brick(MIN, 1), UNKNOWN);
        FlyFloor y = with("f659;l9900;l9900");
        y.brick(0, 0);
        y.brick(1, 0);
        due("STOCK goes above 9", y.many(3), 27);
        due("keep", y.keep(1), 1);
        due("restore", y.restore(1), 27);
    }

    private static void undoing() {
        part = "promise 12";
        FlyFloor x = with(FIVE);
        due("none", x.undo(), STATE);
        due("no LOFT", new FlyFloor().undo(), STATE);
        x.fly(0, 3);
        x.hire(6);
        x.trim(1);
        x.fly(5, 3);
        x.fly(1, 1);
        due("undo", x.undo(), 0);
        due("heights", heights(x), 9901);
        due("HANDS stay", x.many(1), 6);
        due("TRIM stays", x.many(2), 1);
        due("none", x.undo(), STATE);
        for (int k = 0; k < 21; k++) {
            x.fly(3, k % 10);
        }
        due("eight are known", x.many(4), 8);
        for (int k = 7; k >= 0; k--) {
            due("undo", x.undo(), k);
        }
        due("the older are lost", x.ofBatten(3, 3), 2);
        due("none", x.undo(), STATE);
        x.hang(0, 1);
        x.fly(0, 1);
        due("undo", x.undo(), 1);
        x.brick(0, 2);
        due("undo of what came later", x.undo(), 1);
        due("undo", x.undo(), 0);
        due("LOAD", x.ofBatten(0, 1), 3);
    }

    private static void images() {
        part = "promises 13, 14";
        FlyFloor x = with(FIVE);
        due("not kept", x.restore(1), STATE);
        due("image 2", x.keep(2), UNKNOWN);
        due("image -1", x.keep(-1), UNKNOWN);
        due("keep", x.keep(1), 1);
        due("keep again", x.keep(1), 1);
        due("not kept", x.restore(0), STATE);
        x.hang(0, 4);
        x.brick(0, 4);
        x.fly(0, 2);
        x.hire(1);
        x.trim(2);
        due("another", x.keep(0), 2);
        due("keep leaves the past", x.many(4), 3);
        due("restore", x.restore(1), 4);
        due("nothing may be UNDONE", x.many(4), 0);
        due("undo", x.undo(), STATE);
        due("HANDS", x.many(1), 3);
        due("TRIM", x.many(2), 5);
        due("LOAD, BRICKS", x.ofBatten(0, 1) * 10 + x.ofBatten(0, 2), 33);
        due("heights", heights(x), 9901);
        due("restore", x.restore(0), 3);
        due("HANDS, TRIM", x.many(1) * 10 + x.many(2), 12);
        due("LOAD, BRICKS", x.ofBatten(0, 1) * 10 + x.ofBatten(0, 2), 44);
        due("heights", heights(x), 29901);
        x.fly(0, 3);
        due("a refused one", x.restore(2), UNKNOWN);
        due("leaves the past", x.many(4), 1);
        x.reading(0, 1, 0);
        x.restore(0);
        due("READINGS stay", x.many(5), 1);
        x.fly(0, 9);
        x.restore(0);
        due("an IMAGE is not touched", heights(x), 29901);
        due("no LOFT, UNKNOWN", new FlyFloor().keep(2), UNKNOWN);
        due("no LOFT", new FlyFloor().keep(0), STATE);
        due("no LOFT, restore", new FlyFloor().restore(0), STATE);
    }

    private static void acts() {
        part = "promise 15";
        FlyFloor x = with(FIVE);
        int[] cells = {0, 9, 1, 0, 1, 4, 2, 5, 4, 1};
        due("BEATS", act(x, 0, cells), 9 + 9 + 4 + 4);
        due("FIRST WRONG", act(x, 1, cells), NONE);
        due("EFFORT", act(x, 2, cells), 9 + 4 + 8);
        due("SEEN", act(x, 3, cells), 0b01010);
        due("HEIGHT", act(x, 10, cells), 9);
        due("HEIGHT", act(x, 11, cells), 4);
        due("HEIGHT", act(x, 12, cells), 5);
        due("no such BATTEN", act(x, 15, cells), NONE);
        due("no such BATTEN", act(x, 17, cells), NONE);
        due("nothing is changed", heights(x), 9901);
        due("UNDONE", x.many(4), 0);
        int[] fouls = {3, 1, 0, 4, 1, 3, 2, 0};
        due("FIRST WRONG", act(x, 1, fouls), 2);
        due("BEATS of a wrong one", act(x, 0, fouls), -102);
        due("EFFORT of a wrong one", act(x, 2, fouls), -102);
        due("SEEN of a wrong one", act(x, 3, fouls), -102);
        due("HEIGHT of a wrong one", act(x, 10, fouls), -102);
        due("none, of a wrong one", act(x, 17, fouls), -102);
        x.hire(1);
        due("HANDS are too few", act(x, 1, 1, 5, 2, 5), 1);
        due("the first of all", act(x, 0, 2, 5, 1, 5), -100);
        due("it stays", act(x, 0, 2, 9, 2, 9), 0);
        due("none", act(x, 3), 1);
    }

    private static void actsInSheets() {
        part = "promise 15, cells";
        FlyFloor x = new FlyFloor();
        due("nothing", x.act(1, 2, 0, 20, 17), NULL);
        x.sheet(1, 2, 60);
        due("no LOFT", x.act(1, 2, 0, 20, 0), STATE);
        read(x, FIVE);
        due("20", x.act(1, 2, 0, 20, 0), 0);
        due("20 from 20 on", x.act(1, 2, 20, 20, 0), 0);
        due("20 from 21 on", x.act(1, 2, 21, 20, 0), INDEX);
        due("fault", x.fault(), 3);
        due("21", x.act(1, 2, 0, 21, 0), OUTSIDE);
        due("fault of a refusal", x.fault(), 0);
        due("-1", x.act(1, 2, 0, -1, 0), OUTSIDE);
        due("lane", x.act(1, -1, 0, 0, 0), OUTSIDE);
        for (int what : new int[] {-1, 4, 9, 18, MIN, MAX}) {
            due("what " + what, x.act(1, 1, 99, 0, what), OUTSIDE);
        }
        due("CAST", x.act(1, 1, 99, 0, 17), CAST);
        due("sheet", x.act(-1, 9, 0, 99, 99), UNKNOWN);
        due("none of it at the end", x.act(1, 2, 60, 0, 1), NONE);
        due("none of it beyond", x.act(1, 2, 61, 0, 1), INDEX);
        due("none of it below", x.act(1, 2, -1, 0, 1), INDEX);
        due("no BATTEN ahead of WRONG", act(x, 0, 0, 9, 0, 3, 1, 0, 5, 0), UNKNOWN);
        due("no HEIGHT ahead of no BATTEN", act(x, 0, 0, 10, 5, 0), OUTSIDE);
        due("no BATTEN ahead of its HEIGHT", act(x, 0, 5, 10), UNKNOWN);
    }

    private static int picture(FlyFloor x, int set) {
        int all = x.picture(set, -2) * 1000 + x.picture(set, -1);
        for (int b = 0; b < x.many(0); b++) {
            all = 10 * all + x.picture(set, b);
        }
        return all;
    }

    private static void pictures() {
        part = "promise 16";
        FlyFloor x = with("f259;l2010;l2020;l3030;l0040");
        due("as all is", picture(x, 1), 1234);
        due("one goes, its neighbours may not", x.picture(0b0010, -2), 1);
        due("EFFORT", x.picture(0b0010, -1), 16);
        due("HEIGHT", x.picture(0b0010, 0), 9);
        due("the rest stays", x.picture(0b0010, 3), 4);
        due("two go", x.picture(0b0100, -2), 2);
        due("EFFORT", x.picture(0b0100, -1), 16 + 14);
        due("the third can't go, but is hidden by none", x.picture(0b1100, -2), 3);
        due("EFFORT", x.picture(0b1100, -1), 16 + 14);
        due("HEIGHT", x.picture(0b1100, 3), 0);
        due("the third can't go", x.picture(0b0000, -2), NONE);
        due("none, HEIGHT", x.picture(0b0000, 0), NONE);
        due("none, EFFORT", x.picture(0b1000, -1), NONE);
        due("no such BATTEN", x.picture(1, 4), NONE);
        due("k 7", x.picture(1, 7), NONE);
        due("k 8", x.picture(1, 8), OUTSIDE);
        due("k -3", x.picture(1, -3), OUTSIDE);
        due("set 16", x.picture(16, 0), OUTSIDE);
        due("set -1", x.picture(-1, 0), OUTSIDE);
        due("set MIN", x.picture(MIN, 0), OUTSIDE);
        due("all of them", x.picture(15, -2), NONE);
        due("nothing is changed", heights(x), 1234);
        due("no LOFT ahead of OUTSIDE", new FlyFloor().picture(-1, 9), STATE);
        due("no LOFT", new FlyFloor().picture(0, 0), STATE);
        FlyFloor y = with("f259;l0090;l0090;l0000");
        due("of two the first as a row", picture(y, 0b010), 1000000 + 900);
        FlyFloor z = with("f219;l0050;l0050;l0000");
        due("FOULS aside, the fewest first", picture(z, 0b010), 1000000 + 500);
        FlyFloor w = with("f219;l1050;l0050;l0000");
        due("the least EFFORT ahead of the row", picture(w, 0), 1000000 + 559);
    }

    private static void splits() {
        part = "promise 17";
        FlyFloor x = with(FIVE);
        due("none", split(x), 0);
        due("one", split(x, 0, 9), 10);
        due("they FOUL at once", split(x, 0, 9, 1, 0), 201);
        due("in the other order", split(x, 1, 0, 0, 9), 201);
        due("the others with the first", split(x, 0, 9, 1, 0, 3, 9), 2010);
        due("HANDS", split(x, 1, 0, 2, 0, 4, 5), 2001);
        due("those that stay need none", split(x, 1, 9, 2, 9, 4, 1), 1000);
        x.hire(1);
        due("each alone", split(x, 1, 8, 4, 5), 201);
        due("one is too heavy", split(x, 1, 8, 2, 5), NONE);
        due("nothing is changed", heights(x), 9901);
        due("UNDONE", x.many(4), 0);
        pairs(x, 0, 9, 1, 0, 1, 9);
        due("a BATTEN in two", x.split(1, 2, 0, 3, -1), STATE);
        due("pair 2 of 2", x.split(1, 2, 0, 2, 2), NONE);
        due("pair 4 of 2", x.split(1, 2, 0, 2, 4), NONE);
        due("k 5", x.split(1, 2, 0, 2, 5), OUTSIDE);
        due("k -2", x.split(1, 2, 0, 2, -2), OUTSIDE);
        due("n 6", x.split(1, 2, 0, 6, 0), OUTSIDE);
        due("n -1", x.split(1, 2, 0, -1, 0), OUTSIDE);
        due("lane", x.split(1, 3, 0, 1, 0), OUTSIDE);
        due("sheet", x.split(4, 3, 0, 9, 9), UNKNOWN);
        due("CAST", x.split(1, 0, 99, 1, 0), CAST);
        due("NULL", x.split(2, 0, 99, 1, 0), NULL);
        due("INDEX", x.split(1, 2, 1, 3, 0), INDEX);
        due("fault", x.fault(), 3);
        due("no BATTEN", split(x, 0, 9, 0, 9, 5, 9), UNKNOWN);
        due("fault", x.fault(), 0);
        due("no HEIGHT", split(x, 0, 9, 0, 9, 1, 10), OUTSIDE);
        FlyFloor y = new FlyFloor();
        y.sheet(1, 2, 2);
        due("no LOFT", y.split(1, 2, 0, 1, 0), STATE);
        FlyFloor z = with("f110;l0101;l0101;l0101;l0101;l0101");
        due("five CUES, the last one first", split(z, 0, 1, 1, 2, 2, 3, 3, 4, 4, 5), 543210);
        FlyFloor w = with("f110;l0011;l0022;l0000");
        due("they change places", split(w, 0, 2, 1, 1), 201);
        FlyFloor v = with("f110;l0011;l0022;l0033");
        due("past a neighbour that stays", split(v, 0, 9, 2, 0), NONE);
    }

    private static void crews() {
        part = "promise 18";
        FlyFloor x = with("f159;l0000;l3091;l6090;l7090;a8090;l0011");
        due("none", crew(x), 1);
        due("PULL 0", crew(x, 0, 9), 1);
        due("PULL 3", crew(x, 0, 9, 1, 0), 3);
        due("PULL 6", crew(x, 1, 0, 2, 0), 6);
        due("PULL 7", crew(x, 2, 0, 3, 0), NONE);
        due("PULL 7, an ARBOR", crew(x, 4, 0), NONE);
        due("it stays", crew(x, 3, 9, 1, 8), 3);
        due("HANDS stay", x.many(1), 1);
        due("nothing is changed", heights(x), 99991);
        due("FOULS are not hauled away", crew(with("f159;l0001;l0011;l0001"), 0, 5), NONE);
        due("no BATTEN", crew(x, 1, 8, 6, 1), UNKNOWN);
        due("no HEIGHT", crew(x, 1, -1), OUTSIDE);
        due("n 21", x.crew(1, 2, 0, 21), OUTSIDE);
        due("n -1", x.crew(1, 2, 0, -1), OUTSIDE);
        due("lane", x.crew(1, 3, 0, 1), OUTSIDE);
        due("sheet", x.crew(4, 3, 0, 1), UNKNOWN);
        due("CAST", x.crew(1, 0, 99, 1), CAST);
        due("NULL", x.crew(2, 0, 99, 1), NULL);
        due("INDEX", x.crew(1, 2, 1, 1), INDEX);
        due("fault", x.fault(), 3);
        FlyFloor y = new FlyFloor();
        y.sheet(1, 2, 2);
        due("no LOFT", y.crew(1, 2, 0, 1), STATE);
    }

    private static void balances() {
        part = "promise 19";
        FlyFloor x = with("f132;l7250;a7200;w7200;l0900;l5500;w9900");
        due("2 and 2 are not enough", x.balance(0, 2), NONE);
        due("just enough", x.balance(0, 3), 4);
        due("an ARBOR", x.balance(1, 2), 4);
        due("a WINCH", x.balance(2, 1), 4);
        due("as it is", x.balance(0, 5), 2);
        due("fewer", x.balance(3, 0), 0);
        due("the nearest", x.balance(3, 4), 4);
        due("it is balanced", x.balance(4, 0), 5);
        due("v 10", x.balance(0, 10), OUTSIDE);
        due("v -1", x.balance(0, -1), OUTSIDE);
        due("no BATTEN", x.balance(6, 10), UNKNOWN);
        due("nothing is changed", x.ofBatten(3, 2) * 10 + x.many(3), 92);
        due("9 at most", with("f139;l9000;l0000").balance(0, 0), 9);
        due("no LOFT", new FlyFloor().balance(0, 0), UNKNOWN);
    }

    private static void readings() {
        part = "promises 20, 21";
        FlyFloor x = with(FIVE);
        due("the first", x.reading(0, 1, 0), 0);
        due("the second", x.reading(4, 9, 81), 1);
        due("no BATTEN", x.reading(5, 0, -1), UNKNOWN);
        due("d 0", x.reading(0, 0, 0), OUTSIDE);
        due("d 10", x.reading(0, 10, 0), OUTSIDE);
        due("v -1", x.reading(0, 1, -1), OUTSIDE);
        due("v 82", x.reading(0, 1, 82), OUTSIDE);
        due("many", x.many(5), 2);
        due("back 3", x.back(3), OUTSIDE);
        due("back -1", x.back(-1), OUTSIDE);
        due("back 0", x.back(0), 2);
        due("back 1", x.back(1), 1);
        due("loads are as without it", x.loads(0), 1 << 3);
        due("the second anew", x.reading(0, 1, 0), 1);
        for (int k = 2; k <= 7; k++) {
            due("number " + k, x.reading(0, 1, 0), k);
        }
        due("a ninth", x.reading(0, 1, 0), FULL);
        due("OUTSIDE ahead of FULL", x.reading(0, 1, 82), OUTSIDE);
        due("all", x.back(8), 0);
        due("none", x.back(1), OUTSIDE);
        due("the first anew", x.reading(0, 1, 0), 0);
        read(x, FIVE);
        due("the first of a new LOFT", x.reading(0, 1, 0), 0);
        due("no LOFT", new FlyFloor().back(0), 0);
        due("no LOFT", new FlyFloor().back(MAX), OUTSIDE);
    }

    private static void whatReadingsTell() {
        part = "promises 22 to 24";
        FlyFloor x = with("f354;l3500;a3500;w3500");
        due("LOADS of all", x.loads(0), 1023);
        due("WEIGHTS of all", x.weights(1), 1023);
        due("KINDS of all", x.kinds(2), 7);
        x.reading(1, 3, 3);
        due("LOADS: an ARBOR with 5, PULL 1", x.loads(1), 1 << 3 | 1 << 7);
        due("WEIGHTS: an ARBOR with 3, PULL 1", x.weights(1), 1 << 1 | 1 << 5);
        due("KINDS: an ARBOR, a WINCH", x.kinds(1), 6);
        due("another one is free", x.loads(0), 1023);
        x.reading(2, 2, 4);
        due("LOADS: a WINCH with 5, PULL 2", x.loads(2), 1 | 1 << 1 | 1 << 9);
        due("WEIGHTS: a WINCH with 3, PULL 2", x.weights(2), 1 << 7 | 1 << 8);
        due("KINDS: a LINE", x.kinds(2), 1);
        due("another READING is not so", x.loads(1) + x.weights(1) + x.kinds(1), 0);
        due("nor of one without any", x.loads(0) + x.weights(0) + x.kinds(0), 0);
        x.brick(2, 7);
        due("by how all is now", x.loads(1), 1 << 3 | 1 << 7);
        x.reading(1, 2, 3);
        due("no PULL is a half", x.loads(1), 0);
        due("no BATTEN", x.loads(3), UNKNOWN);
        due("no BATTEN", x.weights(-1), UNKNOWN);
        due("no BATTEN", x.kinds(3), UNKNOWN);
        due("no LOFT", new FlyFloor().kinds(0), UNKNOWN);
    }

    private static void odds() {
        part = "promise 25";
        FlyFloor x = with("f390;l0001;l0000;l0002;l0002;l0003;l0000;l0000;l0000");
        long[] lower = {1, 4, 4, 16, 16, 64, 128, 256};
        for (int b = 0; b < 8; b++) {
            due("odds(" + b + ", 0)", x.odds(b, 0), 1);
            due("odds(" + b + ", 1)", x.odds(b, 1), lower[b]);
        }
        x.trim(8);
        due("an EDGE of TRIM", x.odds(0, 1), 2);
        due("which 2", x.odds(0, 2), Long.MIN_VALUE);
        due("which -1", x.odds(0, -1), Long.MIN_VALUE);
        due("no BATTEN", x.odds(8, 0), Long.MIN_VALUE);
        due("no LOFT", new FlyFloor().odds(0, 0), Long.MIN_VALUE);
    }

    private static void sheets() {
        part = "promises 26 to 28";
        FlyFloor x = new FlyFloor();
        due("sheet 4", x.sheet(4, 9, 99), UNKNOWN);
        due("sheet -1", x.sheet(-1, 0, 0), UNKNOWN);
        due("lane 3 ahead of SIZE", x.sheet(0, 3, -1), OUTSIDE);
        due("lane -1", x.sheet(0, -1, 0), OUTSIDE);
        due("61", x.sheet(0, 0, 61), OUTSIDE);
        due("SIZE", x.sheet(0, 0, -1), SIZE);
        due("fault", x.fault(), 4);
        due("nothing yet", x.put(0, 0, 1), NULL);
        due("fault", x.fault(), 1);
        due("60", x.sheet(0, 0, 60), 1);
        due("fault", x.fault(), 0);
        due("put", x.put(0, 59, 300), 1);
        due("put", x.put(0, 0, 7), 1);
        due("cut to a byte", x.cell(0, 59, 0), 44);
        due("put 60", x.put(0, 60, 1), INDEX);
        due("fault", x.fault(), 3);
        due("put -1", x.put(0, -1, 1), INDEX);
        due("put MAX", x.put(0, MAX, 1), INDEX);
        due("put in 4", x.put(4, 0, 1), UNKNOWN);
        due("fault of a refusal", x.fault(), 0);
        due("anew", x.sheet(0, 1, 60), 1);
        due("0 at first", x.cell(0, 59, 1), 0);
        due("0 at first", x.cell(0, 0, 1), 0);
        x.put(0, 1, 40000);
        due("cut to a short", x.cell(0, 1, 1), 40000 - 65536);
        x.sheet(0, 2, 2);
        x.put(0, 1, MIN);
        due("an int", x.cell(0, 1, 2), MIN);
        due("a row that is refused", x.sheet(0, 0, 61), OUTSIDE);
        due("leaves it", x.cell(0, 1, 2), MIN);
        x.sheet(0, 0, 1);
        x.put(0, 0, -129);
        due("cut below", x.cell(0, 0, 0), 127);
        due("lose", x.lose(0), 1);
        due("lose again", x.lose(0), 0);
        due("lose 4", x.lose(4), UNKNOWN);
        due("lose -1", x.lose(-1), UNKNOWN);
        due("nothing", x.put(0, 0, 1), NULL);
        x.sheet(3, 0, 0);
        due("no cell", x.put(3, 0, 1), INDEX);
        due("a row of none is one", x.lose(3), 1);
        due("lose names no FAULT", x.fault(), 3);
    }

    private static void cells() {
        part = "promise 29";
        FlyFloor x = new FlyFloor();
        due("nothing", x.cell(0, 0, 1), Long.MIN_VALUE);
        due("NULL", x.fault(), 1);
        x.sheet(0, 1, 2);
        x.put(0, 1, -5);
        due("cell", x.cell(0, 1, 1), -5);
        due("none", x.fault(), 0);
        due("CAST ahead of INDEX", x.cell(0, 2, 0), Long.MIN_VALUE);
        due("CAST", x.fault(), 2);
        due("beyond", x.cell(0, 2, 1), Long.MIN_VALUE);
        due("INDEX", x.fault(), 3);
        due("lane", x.cell(0, 2, 3), Long.MIN_VALUE);
        due("refused", x.fault(), 0);
        due("below", x.cell(0, -1, 1), Long.MIN_VALUE);
        due("INDEX", x.fault(), 3);
        due("sheet", x.cell(4, 0, 1), Long.MIN_VALUE);
        due("refused", x.fault(), 0);
    }

    private static void copies() {
        part = "promise 30";
        FlyFloor x = new FlyFloor();
        due("sheet 4", x.copy(4, 0, 0, 0, 0), UNKNOWN);
        due("other 4", x.copy(0, 0, 4, 0, 0), UNKNOWN);
        due("nothing", x.copy(0, 0, 1, 0, -1), NULL);
        pairs(x, 1, 2, 3, 4, 5);
        due("the first has nothing", x.copy(0, 0, 1, 0, 1), NULL);
        due("the other has nothing", x.copy(1, 0, 0, 0, 1), NULL);
        due("fault", x.fault(), 1);
        x.sheet(0, 1, 3);
        due("unlike LANES ahead of INDEX", x.copy(1, 9, 0, 9, -1), CAST);
        due("fault", x.fault(), 2);
        x.sheet(0, 2, 3);
        due("n -1", x.copy(1, 0, 0, 0, -1), INDEX);
        due("fault", x.fault(), 3);
        due("i -1", x.copy(1, -1, 0, 0, 1), INDEX);
        due("j -1", x.copy(1, 0, 0, -1, 1), INDEX);
        due("beyond i", x.copy(1, 3, 0, 0, 3), INDEX);
        due("beyond j", x.copy(1, 0, 0, 1, 3), INDEX);
        due("none at the ends", x.copy(1, 5, 0, 3, 0), 0);
        due("none beyond", x.copy(1, 6, 0, 3, 0), INDEX);
        due("none beyond", x.copy(1, 5, 0, 4, 0), INDEX);
        due("far", x.copy(1, MAX, 0, MAX, MAX), INDEX);
        due("far below", x.copy(1, MIN, 0, MIN, MIN), INDEX);
        due("nothing was copied", x.cell(0, 0, 2), 0);
        due("copy", x.copy(1, 1, 0, 0, 3), 3);
        due("fault", x.fault(), 0);
        due("copied", x.cell(0, 0, 2) * 100 + x.cell(0, 1, 2) * 10 + x.cell(0, 2, 2), 234);
        due("onto itself", x.copy(1, 0, 1, 1, 4), 4);
        long all = 0;
        for (int i = 0; i < 5; i++) {
            all = 10 * all + x.cell(1, i, 2);
        }
        due("as they were", all, 11234);
        x.copy(1, 1, 1, 0, 4);
        all = 0;
        for (int i = 0; i < 5; i++) {
            all = 10 * all + x.cell(1, i, 2);
        }
        due("as they were, to the front", all, 12344);
    }

    private static int traceOf(int from, int... bodies) {
        int trace = from;
        for (int body : bodies) {
            trace = 31 * trace + body;
        }
        return trace;
    }

    private static void tellings() {
        part = "promises 31, 32, 34";
        FlyFloor x = with("f354;w4000;l3000;a9000;w0000");
        due("a LINE", x.tell(1), 3);
        int trace = traceOf(0, 1);
        due("trace", x.trace(), trace);
        due("an ARBOR", x.tell(2), 109);
        trace = traceOf(trace, 2, 1);
        due("trace", x.trace(), trace);
        due("a WINCH", x.tell(0), 108);
        trace = traceOf(trace, 3, 2, 1, 1);
        due("trace", x.trace(), trace);
        due("no BATTEN", x.tell(4), UNKNOWN);
        due("a LINE is called", x.call(1), 1);
        due("an ARBOR is called", x.call(2), 2);
        due("a WINCH is called", x.call(3), 40);
        trace = traceOf(trace, 4, 4, 5);
        due("trace", x.trace(), trace);
        due("no BATTEN", x.call(-1), UNKNOWN);
        x.hang(1, 7);
        due("its LOAD now", x.tell(1), 7);
        trace = traceOf(trace, 1);
        due("trace", x.trace(), trace);
        due("TRACE is not UNDONE", x.undo() * 0 + x.trace(), trace);
        due("no LOFT", new FlyFloor().tell(0), UNKNOWN);
        due("no LOFT", new FlyFloor().call(0), UNKNOWN);
    }

    private static void takenAs() {
        part = "promises 33, 35";
        FlyFloor x = with("f354;l0000;a0000;w0000");
        for (int b = 0; b < 3; b++) {
            for (int kind = 0; kind < 3; kind++) {
                due("as(" + b + ", " + kind + ")", x.as(b, kind), kind <= b ? 1 : CAST);
                due("fault", x.fault(), kind <= b ? 0 : 2);
            }
        }
        x.as(0, 1);
        due("a call that names none", x.fly(0, 99) + x.tell(0) + x.many(0) + x.trace() * 0, 1);
        due("leaves it", x.fault(), 2);
        due("kind 3", x.as(0, 3), OUTSIDE);
        due("refused", x.fault(), 0);
        x.as(0, 1);
        due("kind -1", x.as(0, -1), OUTSIDE);
        due("refused", x.fault(), 0);
        x.as(0, 1);
        due("no BATTEN", x.as(3, 3), UNKNOWN);
        due("refused", x.fault(), 0);
        due("no LOFT", new FlyFloor().as(0, 0), UNKNOWN);
    }

    private static void manys() {
        part = "promise 36";
        FlyFloor x = with(FIVE);
        x.fly(0, 1);
        x.reading(0, 1, 1);
        int[] wanted = {5, 3, 5, 4, 1, 1};
        for (int what = 0; what <= 5; what++) {
            due("many(" + what + ")", x.many(what), wanted[what]);
        }
        due("many(6)", x.many(6), OUTSIDE);
        due("many(-1)", x.many(-1), OUTSIDE);
        due("no LOFT", new FlyFloor().many(6), OUTSIDE);
    }

    public static void main(String[] args) {
        aNewObject();
        texts();
        textsInSheets();
        textMakesAnew();
        ofBattens();
        seenAndHides();
        hireAndTrim();
        flying();
        cues();
        cuesInSheets();
        hanging();
        bricking();
        undoing();
        images();
        acts();
        actsInSheets();
        pictures();
        splits();
        crews();
        balances();
        readings();
        whatReadingsTell();
        odds();
        sheets();
        cells();
        copies();
        tellings();
        takenAs();
        manys();
        System.out.println(wrong == 0 ? "all answers are as due" : wrong + " answers are not as due");
        if (wrong != 0) {
            System.exit(1);
        }
    }
}
