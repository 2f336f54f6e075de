import java.util.function.IntFunction;
import java.util.function.LongSupplier;
import java.util.function.Supplier;
import java.util.function.ToLongFunction;

/**
 * Each sentence of the document that names a boundary case, with a run of its own: the last number
 * that is taken and the first that is not, none and as much as there may be, what is cut or wraps,
 * each refused call (its answer, its order, what fault() tells then, and that nothing is changed).
 */
public final class FlyFloorEdges {
    private static final int UNKNOWN = -1, OUTSIDE = -2, STATE = -3, FULL = -4, NONE = -9;
    private static final int NULL = -11, CAST = -12, INDEX = -13, SIZE = -14;
    private static final long LOST = Long.MIN_VALUE;
    private static final int MIN = Integer.MIN_VALUE, MAX = Integer.MAX_VALUE;
    private static final String LIGHT = ";l0000";
    /** HANDS 3, TRIM 5, STOCK 4; PULLS 0, 1, 2, 0, 1. */
    private static final String FIVE = "f354;l3301;a6492;w2793;l5500;a8611";
    /** HANDS 6, TRIM 9, STOCK 0; nothing pulls, all are down. */
    private static final String EIGHT = "f690" + LIGHT.repeat(8);

    private static final Supplier<FlyFloor> LADEN = FlyFloorEdges::laden;
    private static final Supplier<FlyFloor> NEW = FlyFloor::new;
    private static final Supplier<FlyFloor> THREE_KINDS = () -> with("f119;l9000;a9000;w9000");

    private static int wrong = 0;
    private static int asked = 0;
    private static String sentence = "";

    private static void due(String call, long got, long want) {
        asked++;
        if (got != want) {
            wrong++;
            if (wrong < 60) {
                System.out.println(sentence + ": " + call + " answered " + got + ", due is " + want);
            }
        }
    }

    private static void write(FlyFloor x, int sheet, int lane, String text) {
        x.sheet(sheet, lane, text.length());
        for (int i = 0; i < text.length(); i++) {
            x.put(sheet, i, text.charAt(i));
        }
    }

    private static int read(FlyFloor x, String text) {
        write(x, 0, 0, text);
        return x.loft(0, 0, 0, text.length());
    }

    private static FlyFloor with(String text) {
        FlyFloor x = new FlyFloor();
        due("the text " + text, read(x, text), (text.length() - 4) / 6);
        return x;
    }

    /** SHEET 1 gets these numbers, as ints. */
    private static FlyFloor pairs(FlyFloor x, int... cells) {
        x.sheet(1, 2, cells.length);
        for (int i = 0; i < cells.length; i++) {
            x.put(1, i, cells[i]);
        }
        return x;
    }

    private static int cue(FlyFloor x, int... cells) {
        return pairs(x, cells).cue(1, 2, 0, cells.length / 2);
    }

    private static int act(FlyFloor x, int what, int... cells) {
        return pairs(x, cells).act(1, 2, 0, cells.length / 2, what);
    }

    private static int crew(FlyFloor x, int... cells) {
        return pairs(x, cells).crew(1, 2, 0, cells.length / 2);
    }

    private static int split(FlyFloor x, int k, int... cells) {
        return pairs(x, cells).split(1, 2, 0, cells.length / 2, k);
    }

    private static int heights(FlyFloor x) {
        int all = 0;
        for (int b = 0; b < x.many(0); b++) {
            all = 10 * all + x.ofBatten(b, 3);
        }
        return all;
    }

    private static void tellRig(FlyFloor x, StringBuilder told) {
        for (int b = 0; b < x.many(0); b++) {
            for (int what = 1; what <= 3; what++) {
                told.append(x.ofBatten(b, what)).append(' ');
            }
        }
        told.append(x.many(1)).append(' ').append(x.many(2)).append(' ').append(x.many(3)).append('\n');
    }

    /** All that an object tells, then what may be UNDONE and the IMAGES, one behind another. */
    private static String all(FlyFloor x) {
        StringBuilder told = new StringBuilder();
        told.append(x.many(0)).append(' ').append(x.many(4)).append(' ').append(x.many(5)).append(' ');
        told.append(x.trace()).append(' ');
        tellRig(x, told);
        for (int b = 0; b < x.many(0); b++) {
            told.append(x.ofBatten(b, 0)).append(' ').append(x.ofBatten(b, 4)).append(' ');
            told.append(x.loads(b)).append(' ').append(x.weights(b)).append(' ').append(x.kinds(b)).append(' ');
        }
        for (int sheet = 0; sheet < 4; sheet++) {
            for (int lane = 0; lane < 3; lane++) {
                long cell = x.cell(sheet, 0, lane);
                for (int i = 1; cell != LOST; i++) {
                    told.append(cell).append(' ');
                    cell = x.cell(sheet, i, lane);
                }
                told.append(x.fault()).append('\n');
            }
        }
        while (x.undo() >= 0) {
            tellRig(x, told);
        }
        for (int image = 0; image < 2; image++) {
            told.append(x.restore(image)).append(' ');
            tellRig(x, told);
        }
        return told.toString();
    }

    /** Of a call that names FAULTS: its answer, what fault() tells then; nothing else is changed. */
    private static void refused(Supplier<FlyFloor> start, String call, ToLongFunction<FlyFloor> made, long want) {
        boolean isFault = want <= NULL && want >= SIZE;
        refusedAs(start, call, made, want, isFault ? (int) (-10 - want) : 0);
    }

    private static void refusedAs(Supplier<FlyFloor> start, String call, ToLongFunction<FlyFloor> made, long want,
            int fault) {
        for (int ahead : new int[] {1, 4}) {
            FlyFloor x = start.get();
            leaveFault(x, ahead);
            due(call, made.applyAsLong(x), want);
            due("fault() behind " + call, x.fault(), fault);
            due("what is changed by " + call, all(x).equals(all(start.get())) ? 0 : 1, 0);
        }
    }

    /** Of a call that names no FAULTS: its answer; not even fault() is changed. */
    private static void refusedNamingNone(Supplier<FlyFloor> start, String call, ToLongFunction<FlyFloor> made,
            long want) {
        for (int ahead : new int[] {0, 1, 4}) {
            FlyFloor x = start.get();
            leaveFault(x, ahead);
            due(call, made.applyAsLong(x), want);
            due("fault() behind " + call, x.fault(), ahead);
            due("what is changed by " + call, all(x).equals(all(start.get())) ? 0 : 1, 0);
        }
    }

    /** A FAULT ahead of a call, so that what it leaves of that shows. SHEET 3 has nothing. */
    private static void leaveFault(FlyFloor x, int which) {
        if (which == 0) {
            due("a refusal ahead", x.put(-1, 0, 0), UNKNOWN);
        } else {
            due("a FAULT ahead", which == 1 ? x.put(3, 0, 0) : x.sheet(3, 0, -1), -10 - which);
        }
        due("fault()", x.fault(), which);
    }

    /** As much as can be told of what was: a past, both IMAGES, READINGS, SHEETS of each LANE. */
    private static FlyFloor laden() {
        FlyFloor x = with(FIVE);
        x.hang(0, 4);
        x.keep(0);
        x.brick(0, 4);
        x.fly(3, 7);
        x.keep(1);
        x.reading(1, 2, 2);
        x.reading(4, 9, 9);
        x.tell(1);
        pairs(x, 0, 9, 4, 0, 1, 4, 3, 2, 2, 2);
        x.sheet(2, 1, 4);
        x.put(2, 1, -300);
        return x;
    }

    // ---- Terms: the constants, a new object

    private static void newObject() {
        sentence = "1: No LOFT (no BATTENS), SHEETS have nothing";
        for (int what = 0; what <= 5; what++) {
            due("many(" + what + ")", new FlyFloor().many(what), 0);
        }
        for (int k = 0; k < 4; k++) {
            due("lose", new FlyFloor().lose(k), 0);
            due("put", new FlyFloor().put(k, 0, 0), NULL);
        }
        due("trace()", new FlyFloor().trace(), 0);
        due("fault()", new FlyFloor().fault(), 0);
        sentence = "the constants";
        due("UNKNOWN", FlyFloor.UNKNOWN, UNKNOWN);
        due("OUTSIDE", FlyFloor.OUTSIDE, OUTSIDE);
        due("STATE", FlyFloor.STATE, STATE);
        due("FULL", FlyFloor.FULL, FULL);
        due("NONE", FlyFloor.NONE, NONE);
        due("LOST", FlyFloor.LOST, LOST);
    }

    // ---- 1 the loft

    private static String codesAt(int place) {
        String[] head = {"f", "123456", "123456789", "0123456789"};
        String[] batten = {";", "law", "0123456789", "0123456789", "0123456789", "0123"};
        return place < 4 ? head[place] : batten[(place - 4) % 6];
    }

    private static void everyCode() {
        sentence = "1 TEXT: every code at every place; FIRST FAULT: the first with which no TEXT goes on";
        for (int place = 0; place < 52; place++) {
            for (int code = -128; code <= 127; code++) {
                due("code " + code + " at " + place, taken(0, place, code),
                    codesAt(place).indexOf(code) >= 0 ? 8 : -100 - place);
            }
        }
        sentence = "1 TEXT: codes of wider LANES are not cut";
        for (int place = 0; place < 52; place++) {
            int right = codesAt(place).charAt(0);
            due("short", taken(1, place, right + 256), -100 - place);
            due("short, as an int it were none", taken(1, place, right + 65536), 8);
            due("int", taken(2, place, right + 65536), -100 - place);
            due("int", taken(2, place, right - 256), -100 - place);
            due("int", taken(2, place, right + MIN), -100 - place);
        }
    }

    /** What a TEXT of eight with one code changed answers. */
    private static int taken(int lane, int place, int code) {
        FlyFloor x = new FlyFloor();
        write(x, 2, lane, EIGHT);
        x.put(2, place, code);
        return x.loft(2, lane, 0, 52);
    }

    private static void everyLength() {
        sentence = "1 TEXT: 2 to 8 BATTENS; how many codes there are, if it just ends too soon";
        String nine = "f123" + ";l0123;a9990;w4563".repeat(3) + ";l";
        for (int n = 0; n <= 60; n++) {
            FlyFloor x = new FlyFloor();
            write(x, 0, 0, nine);
            boolean ends = n >= 16 && n <= 52 && (n - 4) % 6 == 0;
            due(n + " codes", x.loft(0, 0, 0, n), ends ? (n - 4) / 6 : -100 - Math.min(n, 52));
            due("BATTENS by " + n + " codes", x.many(0), ends ? (n - 4) / 6 : 0);
        }
        sentence = "1 TEXT: the ; of a ninth BATTEN";
        due("a ninth ;", read(new FlyFloor(), EIGHT + ";"), -152);
        due("a ninth BATTEN", read(new FlyFloor(), EIGHT + LIGHT), -152);
        due("a code that is none there", read(new FlyFloor(), EIGHT + "l"), -152);
        due("the first of two", read(new FlyFloor(), "f777"), -101);
        due("ahead of an end that is too soon", read(new FlyFloor(), "f123;l999a"), -109);
    }

    private static void textWithinARow() {
        sentence = "2: a TEXT of n cells from i on, its places are from i on";
        FlyFloor x = new FlyFloor();
        write(x, 3, 2, ";;f123;l9990;a0003;;");
        due("in the middle", x.loft(3, 2, 2, 16), 2);
        due("one cell earlier", x.loft(3, 2, 1, 16), -100);
        due("one cell later", x.loft(3, 2, 3, 16), -100);
        due("one cell more", x.loft(3, 2, 2, 17), -117);
        due("one cell less", x.loft(3, 2, 2, 15), -115);
        due("none of them", x.loft(3, 2, 2, 0), -100);
        due("one of them", x.loft(3, 2, 2, 1), -101);
        due("just the end", x.loft(3, 2, 20, 0), -100);
        due("fault()", x.fault(), 0);
        due("what was taken stays", x.many(0) * 1000 + x.many(1) * 100 + x.many(2) * 10 + x.many(3), 2123);
    }

    private static void loftRefused() {
        sentence = "2 loft: UNKNOWN; OUTSIDE: lane; CAST (nothing is no CAST), NULL, SIZE, INDEX; -100 less it";
        for (int sheet : new int[] {-1, 4, MIN, MAX}) {
            refused(LADEN, "loft of sheet " + sheet, f -> f.loft(sheet, 3, -1, -1), UNKNOWN);
        }
        for (int lane : new int[] {-1, 3, MIN, MAX}) {
            refused(LADEN, "loft by lane " + lane, f -> f.loft(0, lane, -1, -1), OUTSIDE);
            refused(LADEN, "loft of nothing by lane " + lane, f -> f.loft(3, lane, -1, -1), OUTSIDE);
        }
        for (int lane = 0; lane < 3; lane++) {
            int as = lane;
            refused(LADEN, "loft of nothing", f -> f.loft(3, as, -1, -1), NULL);
            for (int sheet = 0; sheet < 3; sheet++) {
                int of = sheet;
                int own = sheet == 0 ? 0 : sheet == 1 ? 2 : 1;
                String call = "loft(" + of + ", " + as + ", -1, -1)";
                refused(LADEN, call, f -> f.loft(of, as, -1, -1), as == own ? SIZE : CAST);
            }
        }
        refused(LADEN, "n MIN", f -> f.loft(0, 0, 0, MIN), SIZE);
        int[][] beyond = {
            {-1, 0}, {-1, 1}, {0, 35}, {1, 34}, {34, 1}, {35, 0},
            {MAX, 0}, {MAX, MAX}, {MIN, 0}, {MIN, MAX}, {0, MAX},
        };
        for (int[] cells : beyond) {
            refused(LADEN, "cells " + cells[0] + ", " + cells[1], f -> f.loft(0, 0, cells[0], cells[1]), INDEX);
        }
        refused(LADEN, "the FIRST FAULT", f -> f.loft(0, 0, 0, 33), -133);
        refused(LADEN, "none at the end", f -> f.loft(0, 0, 34, 0), -100);
    }

    private static void allAnew() {
        sentence = "1: a TEXT that is taken makes all anew: nothing to be UNDONE, no IMAGES, no READINGS";
        FlyFloor x = laden();
        for (int k = 0; k < 8; k++) {
            x.fly(0, k);
        }
        due("UNDONE", x.many(4), 8);
        due("anew", x.loft(0, 0, 0, 34), 5);
        due("UNDONE", x.many(4), 0);
        due("READINGS", x.many(5), 0);
        due("undo()", x.undo(), STATE);
        due("restore(0)", x.restore(0), STATE);
        due("restore(1)", x.restore(1), STATE);
        due("back(1)", x.back(1), OUTSIDE);
        due("the first READING", x.reading(0, 1, 0), 0);
        due("the first IMAGE", x.keep(1), 1);
        due("heights", heights(x), 9901);
        due("LOAD, BRICKS", x.ofBatten(0, 1) * 10 + x.ofBatten(0, 2), 33);
        due("HANDS, TRIM, STOCK", x.many(1) * 100 + x.many(2) * 10 + x.many(3), 354);
        due("fewer BATTENS", read(x, "f110;w9993;a0000"), 2);
        due("the third", x.ofBatten(2, 0), UNKNOWN);
        due("SHEETS stay", x.cell(2, 1, 1), -300);
    }

    private static void pullsAndEdges() {
        sentence = "1 PULL: an ARBOR's is 1 less (0 at least), a WINCH's half of a LINE's, cut";
        int[][] pulls = {
            {0, 1, 2, 3, 4, 5, 6, 7, 8, 9}, {0, 0, 1, 2, 3, 4, 5, 6, 7, 8}, {0, 0, 1, 1, 2, 2, 3, 3, 4, 4},
        };
        for (int load = 0; load <= 9; load++) {
            for (int bricks = 0; bricks <= 9; bricks++) {
                String row = "" + load + bricks + "00";
                FlyFloor x = with("f110;l" + row + ";a" + row + ";w" + row);
                for (int kind = 0; kind < 3; kind++) {
                    due("PULL of " + row, x.ofBatten(kind, 5), pulls[kind][Math.abs(load - bricks)]);
                    due("kind", x.ofBatten(kind, 0), kind);
                    due("LOAD", x.ofBatten(kind, 1), load);
                    due("BRICKS", x.ofBatten(kind, 2), bricks);
                }
            }
        }
        sentence = "1 EDGE: HEIGHT less DROP (0 at least)";
        int[][] edges = {
            {0, 1, 2, 3, 4, 5, 6, 7, 8, 9}, {0, 0, 1, 2, 3, 4, 5, 6, 7, 8},
            {0, 0, 0, 1, 2, 3, 4, 5, 6, 7}, {0, 0, 0, 0, 1, 2, 3, 4, 5, 6},
        };
        for (int height = 0; height <= 9; height++) {
            for (int drop = 0; drop <= 3; drop++) {
                FlyFloor x = with("f110;l00" + height + drop + LIGHT);
                due("EDGE of " + height + ", " + drop, x.ofBatten(0, 6), edges[drop][height]);
                due("HEIGHT", x.ofBatten(0, 3), height);
                due("DROP", x.ofBatten(0, 4), drop);
            }
        }
    }

    private static void ofBattenRefused() {
        sentence = "3 ofBatten: UNKNOWN; OUTSIDE";
        FlyFloor x = laden();
        for (int b : new int[] {-1, 5, 8, MIN, MAX}) {
            refusedNamingNone(LADEN, "BATTEN " + b, f -> f.ofBatten(b, 7), UNKNOWN);
        }
        for (int what : new int[] {-1, 7, MIN, MAX}) {
            refusedNamingNone(LADEN, "what " + what, f -> f.ofBatten(4, what), OUTSIDE);
        }
        due("the last BATTEN, the last what", x.ofBatten(4, 6), 0);
        due("the last of eight", with(EIGHT).ofBatten(7, 6), 0);
        due("a ninth", with(EIGHT).ofBatten(8, 6), UNKNOWN);
        due("no LOFT", new FlyFloor().ofBatten(0, 7), UNKNOWN);
    }

    private static void seenAtTheEdge() {
        sentence = "1 SEEN: an EDGE less than TRIM";
        for (int trim = 1; trim <= 9; trim++) {
            for (int height = 0; height <= 9; height++) {
                FlyFloor x = with("f1" + trim + "0;l00" + height + "0;l0090");
                due("EDGE " + height + ", TRIM " + trim, x.seen(), height < trim ? 1 : 0);
            }
        }
        sentence = "1 SEEN: less than that of each BATTEN ahead of it";
        due("one less", with("f190;l0050;l0040").seen(), 3);
        due("alike", with("f190;l0050;l0050").seen(), 1);
        due("one more", with("f190;l0050;l0060").seen(), 1);
        due("less than the last ahead, not than the first", with("f190;l0030;l0070;l0050").seen(), 1);
        due("by EDGES, not by HEIGHTS", with("f190;l0050;l0073;l0000").seen(), 7);
        due("one ahead of TRIM hides none", with("f150;l0090;l0050;l0040").seen(), 4);
        due("the last of eight", with("f190;l0080;l0070;l0060;l0050;l0040;l0030;l0020;l0010").seen(), 255);
        due("none", with("f110;l0090;l0010").seen(), 0);
        refusedNamingNone(NEW, "no LOFT", f -> f.seen(), STATE);
    }

    private static void hiding() {
        sentence = "1 HIDES: its EDGE is no more than that one's, whose EDGE is less than TRIM";
        due("less", with("f190;l0040;l0050").hides(1), 0);
        due("alike", with("f190;l0050;l0050").hides(1), 0);
        due("more", with("f190;l0060;l0050").hides(1), NONE);
        due("that one is at TRIM", with("f150;l0000;l0050").hides(1), NONE);
        due("that one is 1 below TRIM", with("f150;l0000;l0040").hides(1), 0);
        due("that one is above TRIM", with("f150;l0000;l0060").hides(1), NONE);
        due("one behind it does not", with("f190;l0050;l0000").hides(0), NONE);
        sentence = "5 hides: the first (least) that does; NONE. UNKNOWN";
        due("of two the least", with("f190;l0040;l0030;l0050").hides(2), 0);
        due("not the first of all", with("f190;l0060;l0030;l0050").hides(2), 1);
        due("the last of eight by the seventh",
            with("f190;l0090;l0080;l0080;l0080;l0080;l0080;l0010;l0010").hides(7), 6);
        for (int b : new int[] {-1, 5, MIN, MAX}) {
            refusedNamingNone(LADEN, "BATTEN " + b, f -> f.hides(b), UNKNOWN);
        }
        due("no LOFT", new FlyFloor().hides(0), UNKNOWN);
    }

    private static void hiring() {
        sentence = "6 hire: v (1 .. 6): how many there were. OUTSIDE; STATE: there is no LOFT";
        FlyFloor x = laden();
        int was = 3;
        for (int v = 1; v <= 6; v++) {
            due("hire(" + v + ")", x.hire(v), was);
            due("HANDS", x.many(1), v);
            was = v;
        }
        for (int v : new int[] {0, 7, -1, MIN, MAX}) {
            refusedNamingNone(LADEN, "hire(" + v + ")", f -> f.hire(v), OUTSIDE);
            due("no LOFT", new FlyFloor().hire(v), OUTSIDE);
        }
        refusedNamingNone(NEW, "hire(1)", f -> f.hire(1), STATE);
        refusedNamingNone(NEW, "hire(6)", f -> f.hire(6), STATE);
        due("by the text", with("f110" + LIGHT + LIGHT).hire(6), 1);
        due("by the text", with("f610" + LIGHT + LIGHT).hire(6), 6);
        sentence = "7 trim: v (1 .. 9): what it was. OUTSIDE; STATE: there is no LOFT";
        was = 5;
        for (int v = 1; v <= 9; v++) {
            due("trim(" + v + ")", x.trim(v), was);
            due("TRIM", x.many(2), v);
            was = v;
        }
        for (int v : new int[] {0, 10, -1, MIN, MAX}) {
            refusedNamingNone(LADEN, "trim(" + v + ")", f -> f.trim(v), OUTSIDE);
            due("no LOFT", new FlyFloor().trim(v), OUTSIDE);
        }
        refusedNamingNone(NEW, "trim(1)", f -> f.trim(1), STATE);
        refusedNamingNone(NEW, "trim(9)", f -> f.trim(9), STATE);
        sentence = "2 UNDONE is a CUE, LOAD, BRICKS changed";
        due("HANDS and TRIM are not", x.many(4), 3);
    }

    // ---- 2 cues

    private static void handsForACue() {
        sentence = "2: the PULLS of all that GO are together no more than HANDS";
        for (int hands = 1; hands <= 6; hands++) {
            for (int pull = 0; pull <= 9; pull++) {
                FlyFloor x = with("f" + hands + "10;l" + pull + "000" + LIGHT);
                due("PULL " + pull + ", HANDS " + hands, x.fly(0, 9), pull <= hands ? 9 : STATE);
                due("heights", heights(x), pull <= hands ? 90 : 0);
                due("UNDONE", x.many(4), pull <= hands ? 1 : 0);
            }
        }
        due("3 and 3 by 6", cue(with("f610;l3000;l0300"), 0, 1, 1, 1), 1);
        due("3 and 4 by 6", cue(with("f610;l3000;l0400"), 0, 1, 1, 1), STATE);
        due("3 and 4 by 6, one stays", cue(with("f610;l3000;l0410"), 0, 1, 1, 1), 1);
        due("9 by 1, it stays", with("f110;l9050;l0000").fly(0, 5), 0);
        int[] all = {0, 1, 1, 1, 2, 1, 3, 1, 4, 1, 5, 1, 6, 1, 7, 1};
        String six = ";l1000".repeat(6) + LIGHT.repeat(2);
        due("eight by 6", cue(with("f610" + six), all), 1);
        due("eight by 5", cue(with("f510" + six), all), STATE);
    }

    private static void fouling() {
        sentence = "2 FOUL: both have a DROP above 0";
        for (int one = 0; one <= 3; one++) {
            for (int other = 0; other <= 3; other++) {
                FlyFloor x = with("f110;l000" + one + ";l005" + other);
                due("DROPS " + one + ", " + other, x.fly(0, 6), one > 0 && other > 0 ? STATE : 6);
            }
        }
        sentence = "2 FOUL: the one that hangs higher (by HEIGHT) hangs lower behind it";
        for (int height = 0; height <= 9; height++) {
            due("0 to " + height + ", 1 at 5", with("f110;l0001;l0051").fly(0, height), height > 5 ? STATE : height);
            due("1 to " + height + ", 0 at 5", with("f110;l0051;l0001").fly(1, height), height > 5 ? STATE : height);
            due("0 from 9 to " + height, with("f110;l0091;l0051").fly(0, height), height < 5 ? STATE : 9 - height);
            due("from alike to " + height, with("f110;l0051;l0051").fly(0, height), Math.abs(height - 5));
        }
        due("by EDGES they would not", with("f110;l0043;l0051").fly(0, 6), STATE);
        sentence = "2 FOUL: neighbours (k and k + 1)";
        due("k and k + 2", with("f110;l0001;l0050;l0051").fly(0, 9), 9);
        due("the last two of eight", with("f110" + LIGHT.repeat(6) + ";l0001;l0011").fly(6, 2), STATE);
        due("the last two of eight", with("f110" + LIGHT.repeat(6) + ";l0011;l0001").fly(7, 2), STATE);
        due("the eighth and the first are none", with("f110;l0011" + LIGHT.repeat(6) + ";l0001").fly(7, 2), 2);
        sentence = "2: all at once";
        due("both up", cue(with("f110;l0001;l0011"), 0, 8, 1, 9), 8);
        due("they change places", cue(with("f110;l0001;l0011"), 0, 1, 1, 0), STATE);
        due("they meet", cue(with("f110;l0001;l0051"), 0, 3, 1, 3), 3);
        due("in the other order of pairs", cue(with("f110;l0001;l0011"), 1, 9, 0, 8), 8);
    }

    private static FlyFloor hired(int hands) {
        FlyFloor x = laden();
        x.hire(hands);
        return x;
    }

    private static FlyFloor flown(int b, int height) {
        FlyFloor x = laden();
        x.fly(b, height);
        return x;
    }

    private static void flying() {
        sentence = "8 fly: its BEATS. UNKNOWN; OUTSIDE; STATE: it can't be";
        for (int from = 0; from <= 9; from++) {
            for (int to = 0; to <= 9; to++) {
                FlyFloor x = with("f110;l00" + from + "3" + LIGHT);
                due("from " + from + " to " + to, x.fly(0, to), Math.abs(from - to));
                due("UNDONE", x.many(4), 1);
                due("HEIGHT", x.ofBatten(0, 3), to);
            }
        }
        for (int b : new int[] {-1, 5, MIN, MAX}) {
            refusedNamingNone(LADEN, "BATTEN " + b, f -> f.fly(b, 10), UNKNOWN);
        }
        for (int height : new int[] {-1, 10, MIN, MAX}) {
            refusedNamingNone(LADEN, "HEIGHT " + height, f -> f.fly(4, height), OUTSIDE);
        }
        refusedNamingNone(() -> hired(1), "HANDS", f -> f.fly(2, 8), STATE);
        refusedNamingNone(() -> flown(0, 5), "FOUL", f -> f.fly(1, 4), STATE);
        due("no LOFT", new FlyFloor().fly(0, 10), UNKNOWN);
    }

    private static void cues() {
        sentence = "9 cue: n (0 .. 8) pairs: its BEATS, as far as the farthest GOES";
        due("none", cue(with(EIGHT)), 0);
        due("eight", cue(with(EIGHT), 0, 1, 1, 2, 2, 3, 3, 4, 4, 5, 5, 6, 6, 7, 7, 8), 8);
        due("eight, from the last on", cue(with(EIGHT), 7, 0, 6, 0, 5, 9, 4, 0, 3, 0, 2, 0, 1, 0, 0, 0), 9);
        FlyFloor y = with(EIGHT);
        cue(y, 0, 1, 1, 2, 2, 3, 3, 4, 4, 5, 5, 6, 6, 7, 7, 8);
        due("heights", heights(y), 12345678);
        due("one to be UNDONE", y.many(4), 1);
        due("none GOES", cue(y, 0, 1, 7, 8), 0);
        due("it may be UNDONE, too", y.many(4), 2);
        sentence = "9 cue: cells of a SHEET from i on (2 n)";
        FlyFloor z = pairs(with(EIGHT), 9, 9, 3, 7, 5, 8, 9);
        due("from 2 on", z.cue(1, 2, 2, 2), 8);
        due("heights", heights(z), 70800);
        due("the last two cells", pairs(with(EIGHT), 9, 6, 5).cue(1, 2, 1, 1), 5);
        FlyFloor bytes = with(EIGHT);
        write(bytes, 2, 0, "\1\2\7\3");
        due("of bytes", bytes.cue(2, 0, 0, 2), 3);
        write(bytes, 2, 1, "\1\2\7\5");
        due("of shorts", bytes.cue(2, 1, 0, 2), 2);
        due("heights", heights(bytes), 2000005);
    }

    /** What all calls that take n pairs refuse alike; the call is told by sheet, lane, i, n. */
    private interface OfPairs {
        int call(FlyFloor x, int sheet, int lane, int i, int n);
    }

    private static void pairsRefused(String name, OfPairs made, int most) {
        sentence = name + ": UNKNOWN: SHEET; OUTSIDE: lane, n (0 .. " + most + "); FAULTS CAST, NULL, INDEX";
        for (int sheet : new int[] {-1, 4, MIN, MAX}) {
            refused(LADEN, "sheet " + sheet, f -> made.call(f, sheet, 3, -1, -1), UNKNOWN);
        }
        for (int lane : new int[] {-1, 3, MIN, MAX}) {
            refused(LADEN, "lane " + lane, f -> made.call(f, 1, lane, -1, 1), OUTSIDE);
            refused(LADEN, "nothing, lane " + lane, f -> made.call(f, 3, lane, 0, 1), OUTSIDE);
        }
        for (int n : new int[] {-1, most + 1, MIN, MAX, 1 << 30, 1 << 31}) {
            refused(LADEN, "n " + n, f -> made.call(f, 1, 1, -1, n), OUTSIDE);
            refused(LADEN, "nothing, n " + n, f -> made.call(f, 3, 1, -1, n), OUTSIDE);
        }
        for (int lane = 0; lane < 3; lane++) {
            int as = lane;
            refused(LADEN, "nothing", f -> made.call(f, 3, as, -1, 1), NULL);
            refused(LADEN, "nothing, none of it", f -> made.call(f, 3, as, 0, 0), NULL);
            refused(LADEN, "ints", f -> made.call(f, 1, as, -1, 1), as == 2 ? INDEX : CAST);
            refused(LADEN, "shorts", f -> made.call(f, 2, as, 5, 0), as == 1 ? INDEX : CAST);
            refused(LADEN, "bytes", f -> made.call(f, 0, as, 35, 0), as == 0 ? INDEX : CAST);
        }
        int[][] beyond = {{-1, 0}, {-1, 1}, {11, 0}, {10, 1}, {9, 1}, {1, 5}, {MIN, 0}, {MAX, 0}, {MAX, 5}, {MIN, 5}};
        for (int[] cells : beyond) {
            refused(LADEN, "cells " + cells[0] + ", " + cells[1], f -> made.call(f, 1, 2, cells[0], cells[1]), INDEX);
        }
        pairsRefusedByTheLoft(name, made);
    }

    private static void pairsRefusedByTheLoft(String name, OfPairs made) {
        sentence = name + ": STATE: there is no LOFT; pair by pair UNKNOWN, OUTSIDE";
        Supplier<FlyFloor> none = () -> pairs(new FlyFloor(), 9, 99, 0, 0);
        refused(none, "no LOFT", f -> made.call(f, 1, 2, 0, 2), STATE);
        refused(none, "no LOFT, none of it", f -> made.call(f, 1, 2, 4, 0), STATE);
        refused(none, "no LOFT, but INDEX", f -> made.call(f, 1, 2, 1, 2), INDEX);
        refused(none, "no LOFT, but CAST", f -> made.call(f, 1, 1, 0, 2), CAST);
        refused(none, "no LOFT, but NULL", f -> made.call(f, 0, 1, 0, 2), NULL);
        int[][] unlike = {
            {UNKNOWN, -1, 10, 0, 0}, {UNKNOWN, 5, 10, 0, 0}, {UNKNOWN, 8, 0, 0, 0}, {UNKNOWN, MIN, 0, 0, 0},
            {UNKNOWN, MAX, 0, 0, 0}, {UNKNOWN, 256, 0, 0, 0}, {OUTSIDE, 0, -1, 5, 0}, {OUTSIDE, 4, 10, -1, 0},
            {OUTSIDE, 0, MIN, 1, 10}, {OUTSIDE, 0, MAX, 1, 10}, {OUTSIDE, 0, 256, 1, 0}, {UNKNOWN, 0, 0, 5, 10},
            {UNKNOWN, 4, 1, -1, -1}, {OUTSIDE, 0, 0, 4, 10}, {OUTSIDE, 4, 1, 0, -1},
        };
        for (int[] row : unlike) {
            Supplier<FlyFloor> x = () -> pairs(laden(), row[1], row[2], row[3], row[4]);
            String what = row[1] + ", " + row[2] + "; " + row[3] + ", " + row[4];
            refused(x, what, f -> made.call(f, 1, 2, 0, 2), row[0]);
        }
        FlyFloor x = pairs(laden(), 5, 10, 4, 1, 5, 10);
        due("pairs that are not among the n", made.call(x, 1, 2, 2, 1) > -10 ? 1 : 0, 1);
        due("fault()", x.fault(), 0);
    }

    private static void pairsOfAllCalls() {
        pairsRefused("9 cue", (x, sheet, lane, i, n) -> x.cue(sheet, lane, i, n), 8);
        for (int what : new int[] {0, 1, 2, 3, 10, 17}) {
            pairsRefused("15 act", (x, sheet, lane, i, n) -> x.act(sheet, lane, i, n, what), 20);
        }
        for (int k : new int[] {-1, 0, 4}) {
            pairsRefused("17 split", (x, sheet, lane, i, n) -> x.split(sheet, lane, i, n, k), 5);
        }
        pairsRefused("18 crew", (x, sheet, lane, i, n) -> x.crew(sheet, lane, i, n), 20);
    }

    private static void twice() {
        IntFunction<OfPairs> calls = k -> k == 0 ? (x, sheet, lane, i, n) -> x.cue(sheet, lane, i, n)
            : (x, sheet, lane, i, n) -> x.split(sheet, lane, i, n, k - 2);
        for (int k = 0; k <= 6; k++) {
            OfPairs made = calls.apply(k);
            sentence = (k == 0 ? "9 cue" : "17 split") + ": STATE: a BATTEN is in two of them";
            Supplier<FlyFloor> x = () -> pairs(laden(), 0, 9, 0, 9, 3, 7, 1, 9, 3, 7);
            refused(x, "the first two", f -> made.call(f, 1, 2, 0, 2), STATE);
            refused(x, "the first and the last", f -> made.call(f, 1, 2, 4, 3), STATE);
            refused(x, "all five", f -> made.call(f, 1, 2, 0, 5), STATE);
            Supplier<FlyFloor> y = () -> pairs(laden(), 3, 7, 3, 7, 5, 0);
            refused(y, "behind them no BATTEN", f -> made.call(f, 1, 2, 0, 3), UNKNOWN);
            Supplier<FlyFloor> z = () -> pairs(laden(), 3, 7, 3, 7, 4, 10);
            refused(z, "behind them no HEIGHT", f -> made.call(f, 1, 2, 0, 3), OUTSIDE);
        }
        sentence = "15 act, 18 crew: a BATTEN may be in many of them";
        due("act", act(with(EIGHT), 0, 7, 1, 7, 2, 7, 0), 4);
        due("crew", crew(with(EIGHT), 7, 1, 7, 2, 7, 0), 1);
        sentence = "9 cue: STATE: it can't be";
        Supplier<FlyFloor> x = () -> pairs(laden(), 1, 0, 2, 0, 4, 5);
        refused(x, "HANDS", f -> f.cue(1, 2, 0, 3), STATE);
        Supplier<FlyFloor> y = () -> pairs(laden(), 1, 0, 0, 9);
        refused(y, "FOUL", f -> f.cue(1, 2, 0, 2), STATE);
    }

    private static void hanging() {
        sentence = "10 hang: v (0 .. 9). UNKNOWN; OUTSIDE; STATE: it is not at HEIGHT 0";
        for (int v = 0; v <= 9; v++) {
            FlyFloor x = with("f110;l0000" + LIGHT);
            due("hang(" + v + ")", x.hang(0, v), 0);
            due("LOAD", x.ofBatten(0, 1), v);
            due("STOCK", x.many(3), 0);
            due("UNDONE", x.many(4), 1);
        }
        for (int b : new int[] {-1, 5, MIN, MAX}) {
            refusedNamingNone(LADEN, "BATTEN " + b, f -> f.hang(b, 10), UNKNOWN);
            refusedNamingNone(LADEN, "brick, BATTEN " + b, f -> f.brick(b, 10), UNKNOWN);
        }
        for (int v : new int[] {-1, 10, MIN, MAX}) {
            refusedNamingNone(LADEN, "v " + v, f -> f.hang(1, v), OUTSIDE);
            refusedNamingNone(LADEN, "brick, v " + v, f -> f.brick(1, v), OUTSIDE);
        }
        for (int height = 1; height <= 9; height++) {
            String text = "f110;l00" + height + "3" + LIGHT;
            Supplier<FlyFloor> y = () -> with(text);
            refusedNamingNone(y, "HEIGHT " + height, f -> f.hang(0, 0), STATE);
            refusedNamingNone(y, "brick, HEIGHT " + height, f -> f.brick(0, 0), STATE);
        }
        due("no LOFT", new FlyFloor().hang(0, 10), UNKNOWN);
        due("no LOFT", new FlyFloor().brick(0, 10), UNKNOWN);
    }

    private static void runningAway() {
        sentence = "2: if BRICKS are above LOAD by more than HANDS, it RUNS AWAY: to HEIGHT 9";
        for (int kind = 0; kind < 3; kind++) {
            String letter = "law".substring(kind, kind + 1);
            for (int hands = 1; hands <= 6; hands++) {
                for (int v = 0; v <= 9; v++) {
                    FlyFloor x = with("f" + hands + "19;" + letter + "9900" + ";" + letter + "0000");
                    due("LOAD " + v + ", 9 BRICKS, HANDS " + hands, x.hang(0, v), 9 - v > hands ? 1 : 0);
                    due(v + " BRICKS, HANDS " + hands, x.brick(1, v), v > hands ? 1 : 0);
                    due("heights", heights(x), (9 - v > hands ? 90 : 0) + (v > hands ? 9 : 0));
                    due("STOCK", x.many(3), 9 - v);
                    due("UNDONE", x.undo(), 1);
                    due("UNDONE", x.undo(), 0);
                    due("as it was", heights(x) + x.many(3), 9);
                }
            }
        }
        due("LOAD above BRICKS", with("f110;l0000;l0000").hang(0, 9), 0);
        due("past a neighbour", with("f110;l9901;l0051").hang(0, 0), 1);
        due("HANDS of now", handsOfNow(), 1);
        sentence = "2: not where HANDS become fewer";
        FlyFloor x = with("f310;l0300" + LIGHT);
        x.hire(1);
        due("HEIGHT", x.ofBatten(0, 3), 0);
        due("behind the next change", x.hang(0, 0), 1);
    }

    private static int handsOfNow() {
        FlyFloor x = with("f610;l6600" + LIGHT);
        due("6 by 6", x.hang(0, 0), 0);
        x.hire(5);
        return x.hang(0, 0);
    }

    private static void bricking() {
        sentence = "11 brick: BRICKS come out of STOCK, and go there (it is 0 at least)";
        for (int stock = 0; stock <= 9; stock++) {
            for (int v = 0; v <= 9; v++) {
                FlyFloor x = with("f61" + stock + ";l9300" + LIGHT);
                boolean enough = v - 3 <= stock;
                due(v + " BRICKS, STOCK " + stock, x.brick(0, v), enough ? 0 : STATE);
                due("BRICKS", x.ofBatten(0, 2), enough ? v : 3);
                due("STOCK", x.many(3), enough ? stock - v + 3 : stock);
                due("UNDONE", x.many(4), enough ? 1 : 0);
            }
        }
        refusedNamingNone(() -> with("f613;l9300" + LIGHT), "one more than there are", f -> f.brick(0, 7), STATE);
        FlyFloor y = with("f613;l9300" + LIGHT);
        due("all that there are", y.brick(0, 6), 0);
        due("STOCK", y.many(3), 0);
        refusedNamingNone(() -> with("f610;l9900" + LIGHT), "STOCK is 0", f -> f.brick(1, 1), STATE);
        FlyFloor x = with("f619" + ";l9900".repeat(8));
        for (int b = 0; b < 8; b++) {
            due("all go to STOCK", x.brick(b, 0), 0);
        }
        due("STOCK may be above 9", x.many(3), 81);
        due("keep", x.keep(0), 1);
        due("and out of it again", x.brick(7, 9), 0);
        due("STOCK", x.restore(0), 81);
    }

    private static void undoing() {
        sentence = "2 UNDONE: 8 are known, older ones are lost";
        for (int done = 0; done <= 12; done++) {
            FlyFloor x = with("f110" + LIGHT + LIGHT);
            for (int k = 1; k <= done; k++) {
                due("hang", x.hang(0, k % 10), 0);
                due("may be UNDONE", x.many(4), Math.min(k, 8));
            }
            int known = Math.min(done, 8);
            for (int k = 1; k <= known; k++) {
                due("undo " + k + " of " + done, x.undo(), known - k);
                due("LOAD", x.ofBatten(0, 1), (done - k) % 10);
            }
            due("none is known", x.undo(), STATE);
            due("it stays", x.ofBatten(0, 1), (done - known) % 10);
        }
        sentence = "12 undo: STATE: none is known";
        refusedNamingNone(NEW, "no LOFT", f -> f.undo(), STATE);
        refusedNamingNone(() -> with(FIVE), "a new LOFT", f -> f.undo(), STATE);
        sentence = "2 UNDONE: of all that may be: a CUE, LOAD, BRICKS; HEIGHTS, LOADS, BRICKS, STOCK";
        FlyFloor x = with("f119;l0000;l5000");
        x.fly(0, 3);
        cue(x, 0, 0, 1, 0);
        x.hang(0, 2);
        x.brick(0, 4);
        due("what has run away", heights(x), 90);
        due("STOCK", x.many(3), 5);
        due("BRICKS", x.undo(), 3);
        due("STOCK", x.many(3) * 100 + heights(x), 900);
        due("LOAD, BRICKS", x.ofBatten(0, 1) * 10 + x.ofBatten(0, 2), 20);
        due("LOAD", x.undo(), 2);
        due("LOAD", x.ofBatten(0, 1), 0);
        due("CUE", x.undo(), 1);
        due("heights", heights(x), 30);
        due("fly", x.undo(), 0);
        due("heights", heights(x), 0);
        undoneAgain();
    }

    private static void undoneAgain() {
        sentence = "2 UNDONE: the latest that was not refused";
        FlyFloor x = with("f119;l0000;l5000");
        x.fly(0, 3);
        x.fly(1, 3);
        x.fly(0, 10);
        x.hang(0, 1);
        x.hang(1, 10);
        x.brick(0, 1);
        x.brick(1, 10);
        cue(x, 0, 1, 0, 1);
        due("one", x.undo(), 0);
        due("heights", heights(x), 0);
        sentence = "2 UNDONE: behind ones that were UNDONE others are done";
        for (int k = 1; k <= 9; k++) {
            x.fly(0, k);
        }
        for (int k = 0; k < 5; k++) {
            x.undo();
        }
        due("three are left", x.many(4), 3);
        due("HEIGHT", x.ofBatten(0, 3), 4);
        for (int k = 1; k <= 6; k++) {
            x.fly(0, k - 1);
        }
        due("eight again", x.many(4), 8);
        for (int k = 7; k >= 0; k--) {
            due("undo", x.undo(), k);
        }
        due("HEIGHT", x.ofBatten(0, 3), 2);
        due("none", x.undo(), STATE);
        sentence = "2 UNDONE: HANDS, TRIM, READINGS, IMAGES, SHEETS, TRACE are not";
        FlyFloor y = laden();
        y.hire(6);
        y.trim(9);
        y.tell(0);
        due("three", y.undo() + y.undo() + y.undo(), 3);
        due("HANDS, TRIM, READINGS", y.many(1) * 100 + y.many(2) * 10 + y.many(5), 692);
        due("TRACE", y.trace(), (2 * 31 + 1) * 31 + 1);
        due("SHEETS", y.cell(1, 1, 2), 9);
        due("IMAGES", y.restore(0) * 10 + y.restore(1), 43);
    }

    private static void images() {
        sentence = "13 keep: IMAGES 0, 1: how many there are. UNKNOWN; STATE: there is no LOFT";
        due("0, 0, 1, 0", keeps(0, 0, 1, 0), 1122);
        due("1, 1, 0, 1", keeps(1, 1, 0, 1), 1122);
        FlyFloor x = laden();
        FlyFloor none = new FlyFloor();
        for (int image : new int[] {-1, 2, MIN, MAX}) {
            refusedNamingNone(LADEN, "keep(" + image + ")", f -> f.keep(image), UNKNOWN);
            refusedNamingNone(LADEN, "restore(" + image + ")", f -> f.restore(image), UNKNOWN);
            due("no LOFT", none.keep(image) + none.restore(image), 2 * UNKNOWN);
        }
        for (int image = 0; image < 2; image++) {
            int k = image;
            refusedNamingNone(NEW, "no LOFT", f -> f.keep(k), STATE);
            refusedNamingNone(NEW, "no LOFT", f -> f.restore(k), STATE);
            refusedNamingNone(() -> oneKept(1 - k), "restore(" + k + ")", f -> f.restore(k), STATE);
        }
        sentence = "14 restore: all is as an IMAGE has it: STOCK";
        due("restore(0)", x.restore(0), 4);
        due("LOADS, BRICKS", x.ofBatten(0, 1) * 10 + x.ofBatten(0, 2), 43);
        due("heights", heights(x), 9901);
        due("restore(1)", x.restore(1), 3);
        due("LOADS, BRICKS", x.ofBatten(0, 1) * 10 + x.ofBatten(0, 2), 44);
        due("heights", heights(x), 9971);
        due("READINGS stay", x.many(5), 2);
        sentence = "14 restore: nothing may be UNDONE then";
        x.fly(3, 8);
        due("restore(1)", x.restore(1), 3);
        due("undo()", x.undo(), STATE);
        due("both may be restored again", x.restore(0) * 10 + x.restore(1), 43);
        sentence = "2 IMAGES keep HANDS, TRIM";
        x.hire(6);
        x.trim(9);
        x.restore(0);
        due("HANDS, TRIM", x.many(1) * 10 + x.many(2), 35);
        sentence = "13 keep: an IMAGE that was kept is kept anew";
        x.hire(1);
        due("keep", x.keep(0), 2);
        x.hire(2);
        x.restore(0);
        due("HANDS", x.many(1), 1);
    }

    private static FlyFloor oneKept(int image) {
        FlyFloor x = with(FIVE);
        x.keep(image);
        x.fly(3, 5);
        return x;
    }

    private static int keeps(int... images) {
        FlyFloor x = with(FIVE);
        int all = 0;
        for (int image : images) {
            all = 10 * all + x.keep(image);
        }
        return all;
    }

    /** So many moves of one BATTEN, up and down by 9; the one that is told as wrong goes to 8. */
    private static int[] upAndDown(int n) {
        int[] cells = new int[2 * n];
        for (int k = 0; k < n; k++) {
            cells[2 * k + 1] = k % 2 == 0 ? 9 : 0;
        }
        return cells;
    }

    private static void acts() {
        sentence = "15 act: n (0 .. 20)";
        for (int n = 0; n <= 20; n++) {
            FlyFloor x = with("f690;l6000" + LIGHT);
            due(n + " pairs, BEATS", act(x, 0, upAndDown(n)), 9 * n);
            due(n + " pairs, EFFORT", act(x, 2, upAndDown(n)), 54 * n);
            due(n + " pairs, FIRST WRONG", act(x, 1, upAndDown(n)), NONE);
            due(n + " pairs, HEIGHT", act(x, 10, upAndDown(n)), n % 2 * 9);
            due(n + " pairs, SEEN", act(x, 3, upAndDown(n)), n % 2 == 0 ? 1 : 2);
            due("nothing is changed", heights(x) + x.many(4), 0);
        }
        sentence = "15 act: of one with a FIRST WRONG: -100 less that (but what 1)";
        for (int first = 0; first < 20; first++) {
            FlyFloor x = with("f690;l6000;l7000");
            int[] cells = upAndDown(20);
            cells[2 * first] = 1;
            cells[2 * first + 1] = 1;
            due("FIRST WRONG", act(x, 1, cells), first);
            for (int what : new int[] {0, 2, 3, 10, 11}) {
                due("what " + what, act(x, what, cells), -100 - first);
            }
            cells[2 * first + 1] = 0;
            due("it stays", act(x, 1, cells), NONE);
        }
        sentence = "15 act: HEIGHT of BATTEN b then (10 and b; NONE: there is no such BATTEN)";
        for (int b = 0; b < 8; b++) {
            due("of eight, " + b, act(with(EIGHT), 10 + b, 0, 1, 7, 8), b == 0 ? 1 : b == 7 ? 8 : 0);
            due("of two, " + b, act(with("f110" + LIGHT + ";l0050"), 10 + b), b == 0 ? 0 : b == 1 ? 5 : NONE);
        }
        actsOutside();
    }

    private static FlyFloor sixtyCells() {
        FlyFloor x = with(EIGHT);
        x.sheet(1, 2, 60);
        x.put(1, 59, 9);
        return x;
    }

    private static void actsOutside() {
        sentence = "15 act: OUTSIDE: what (0 .. 3, 10 .. 17)";
        FlyFloor x = laden();
        for (int what : new int[] {-1, 4, 5, 9, 18, MIN, MAX}) {
            refused(LADEN, "what " + what, f -> f.act(1, 2, 0, 1, what), OUTSIDE);
            refused(LADEN, "ahead of CAST", f -> f.act(1, 1, 0, 1, what), OUTSIDE);
            refused(LADEN, "ahead of NULL", f -> f.act(3, 1, 0, 1, what), OUTSIDE);
            refused(LADEN, "behind UNKNOWN", f -> f.act(4, 1, 0, 1, what), UNKNOWN);
        }
        sentence = "15 act: 20 pairs of 60 cells";
        FlyFloor y = sixtyCells();
        due("from 0 on", y.act(1, 2, 0, 20, 0), 0);
        due("from 20 on", y.act(1, 2, 20, 20, 0), 9);
        refused(FlyFloorEdges::sixtyCells, "from 21 on", f -> f.act(1, 2, 21, 20, 0), INDEX);
        due("crew from 20 on", y.crew(1, 2, 20, 20), 1);
        refused(FlyFloorEdges::sixtyCells, "crew from 21 on", f -> f.crew(1, 2, 21, 20), INDEX);
        sentence = "2 ACT: nothing is changed";
        x.act(1, 2, 0, 5, 3);
        x.crew(1, 2, 0, 5);
        x.split(1, 2, 0, 5, 0);
        x.picture(1, 0);
        x.balance(0, 0);
        x.odds(4, 1);
        due("what is changed", all(x).equals(all(laden())) ? 0 : 1, 0);
    }

    // ---- 3 pictures, cues, hands

    private static void pictures() {
        sentence = "16 picture: OUTSIDE: set (of BATTENS that there are), k (-2 .. 7)";
        for (int n = 2; n <= 8; n++) {
            String text = "f190" + LIGHT.repeat(n);
            Supplier<FlyFloor> start = () -> with(text);
            FlyFloor x = start.get();
            due("none of " + n, x.picture(0, -2), n);
            due("all of " + n, x.picture((1 << n) - 1, -2), NONE);
            for (int set : new int[] {-1, 1 << n, MIN, MAX}) {
                refusedNamingNone(start, "set " + set + " of " + n, f -> f.picture(set, 0), OUTSIDE);
            }
            for (int k : new int[] {-3, 8, MIN, MAX}) {
                refusedNamingNone(start, "k " + k, f -> f.picture(1, k), OUTSIDE);
            }
            for (int k = 0; k < 8; k++) {
                due("HEIGHT of " + k + " of " + n, x.picture(1 << n - 1, k), k >= n ? NONE : k == n - 1 ? 0 : 9);
            }
        }
        sentence = "16 picture: STATE: there is no LOFT, ahead of OUTSIDE";
        refusedNamingNone(NEW, "set 0", f -> f.picture(0, 0), STATE);
        refusedNamingNone(NEW, "set -1", f -> f.picture(-1, 8), STATE);
        sentence = "3 PICTURE: each whose PULL is no more than HANDS alone";
        for (int hands = 1; hands <= 6; hands++) {
            FlyFloor x = with("f" + hands + "90;l" + hands + "000;l" + (hands + 1) + "000");
            due("PULL of HANDS", x.picture(2, -2), 1);
            due("EFFORT", x.picture(2, -1), 9 * hands);
            due("PULL above HANDS", x.picture(0, -2), NONE);
            due("none, EFFORT", x.picture(0, -1), NONE);
            due("none, HEIGHT", x.picture(0, 0), NONE);
        }
        due("the PULLS of all may be more", with("f190;l1000;l1000").picture(0, -2), 2);
        due("one above HANDS may stay", with("f190;l0050;l9000").picture(3, -2), 0);
        due("at 0 it needs not GO there", with("f190;l9000;l0000").picture(1, 0), 0);
        sentence = "3 PICTURE: FOULS aside";
        due("past a neighbour", with("f180;l0001;l0051").picture(2, -2), 1);
        picturesInOrder();
    }

    private static void picturesInOrder() {
        sentence = "3 PICTURE: the fewest that GO, the least EFFORT, the first as a row";
        due("none GOES", with("f190;l0050;l0040").picture(3, -2), 0);
        due("none GOES, EFFORT", with("f190;l0050;l0040").picture(3, -1), 0);
        due("none GOES, HEIGHT", with("f190;l0050;l0040").picture(3, 1), 4);
        FlyFloor fewest = with("f650;l6050;l0040;l0030");
        due("one by much EFFORT", fewest.picture(1, -2), 1);
        due("EFFORT", fewest.picture(1, -1), 30);
        FlyFloor least = with("f690;l1040;l1050");
        due("up by 5 or down by 5", least.picture(2, -1), 5);
        FlyFloor same = with("f690;l0050;l0060;l0060");
        due("of two the first as a row", same.picture(1, 0) * 100 + same.picture(1, 1) * 10 + same.picture(1, 2), 566);
        FlyFloor down = with("f190;l0090;l0090");
        due("set 0 at TRIM", down.picture(0, -2), 0);
        due("0 ahead of 9", with("f190;l0050;l0040").picture(1, 0), 0);
        sentence = "3 PICTURE: HEIGHT 0 or 9, by EDGES and TRIM of now";
        FlyFloor low = with("f170;l0003" + LIGHT);
        due("9 less DROP 3 is below TRIM 7", low.picture(2, -2), NONE);
        low.trim(6);
        due("but not below 6", low.picture(2, -2), 1);
        due("both", low.picture(0, -2), 2);
    }

    private static void splits() {
        sentence = "17 split: n (0 .. 5), k -1 (of no moves 0), the CUE of pair k (0 .. 4); NONE: no such pair";
        for (int n = 0; n <= 5; n++) {
            int[] cells = new int[2 * n];
            for (int k = 0; k < n; k++) {
                cells[2 * k] = k;
                cells[2 * k + 1] = 5;
            }
            due(n + " that pull 1, HANDS 1", split(with("f110" + ";l1000".repeat(5)), -1, cells), n);
            due(n + " that pull 0, HANDS 1", split(with("f110" + LIGHT.repeat(5)), -1, cells), Math.min(n, 1));
            due(n + " that pull 1, HANDS 2", split(with("f210" + ";l1000".repeat(5)), -1, cells), (n + 1) / 2);
            for (int k = 0; k <= 4; k++) {
                due("pair " + k + " of " + n, split(with("f110" + ";l1000".repeat(5)), k, cells), k < n ? k : NONE);
                due("pair " + k + " of " + n, split(with("f210" + ";l1000".repeat(5)), k, cells), k < n ? k / 2 : NONE);
                due("pair " + k + " of " + n, split(with("f110" + LIGHT.repeat(5)), k, cells), k < n ? 0 : NONE);
            }
        }
        sentence = "17 split: OUTSIDE: k";
        for (int k : new int[] {-2, 5, MIN, MAX}) {
            refused(LADEN, "k " + k, f -> f.split(1, 2, 0, 1, k), OUTSIDE);
            refused(LADEN, "ahead of CAST", f -> f.split(1, 1, 0, 1, k), OUTSIDE);
            refused(LADEN, "behind UNKNOWN", f -> f.split(-1, 1, 0, 1, k), UNKNOWN);
        }
        sentence = "17 split: NONE: there is none";
        for (int k = -1; k <= 4; k++) {
            due("one is too heavy", split(with("f110;l2000;l1000"), k, 0, 1, 1, 1), NONE);
            due("past one that stays", split(with("f110;l0001;l0051;l0000"), k, 0, 6, 2, 1), NONE);
        }
        due("too heavy, but it stays", split(with("f110;l2000;l1000"), -1, 0, 0, 1, 1), 1);
        sentence = "3 SPLIT: of the fewest CUES, of several the first as a row";
        due("the second one first", split(with("f110;l0001;l0011"), 0, 0, 2, 1, 3), 0);
        due("it must be ahead", split(with("f110;l1001;l1011"), 0, 0, 2, 1, 3), 1);
        due("it must be ahead", split(with("f110;l1001;l1011"), 1, 0, 2, 1, 3), 0);
        due("as pairs are told", split(with("f110;l1001;l1011"), 0, 1, 3, 0, 2), 0);
    }

    private static void crews() {
        sentence = "3 CREW: the fewest HANDS 1 .. 6; NONE: by none";
        for (int pull = 0; pull <= 9; pull++) {
            FlyFloor x = with("f110;l" + pull + "000" + LIGHT);
            due("PULL " + pull, crew(x, 0, 1), pull > 6 ? NONE : Math.max(pull, 1));
            due("HANDS stay", x.many(1), 1);
        }
        due("no pairs", crew(with("f610" + LIGHT + LIGHT)), 1);
        due("one that stays", crew(with("f610;l9000" + LIGHT), 0, 0), 1);
        due("one FOULS", crew(with("f610;l0001;l0011"), 0, 2), NONE);
        due("one behind another, not together", crew(with("f110;l3000;l3000"), 0, 1, 1, 1), 3);
        due("20 pairs", crew(with("f110;l6000" + LIGHT), upAndDown(20)), 6);
    }

    private static void balances() {
        sentence = "19 balance: v (0 .. 9). UNKNOWN; OUTSIDE";
        for (int b : new int[] {-1, 5, MIN, MAX}) {
            refusedNamingNone(LADEN, "BATTEN " + b, f -> f.balance(b, 10), UNKNOWN);
        }
        for (int v : new int[] {-1, 10, MIN, MAX}) {
            refusedNamingNone(LADEN, "v " + v, f -> f.balance(0, v), OUTSIDE);
        }
        due("no LOFT", new FlyFloor().balance(0, 10), UNKNOWN);
        sentence = "3 BALANCE: no more than BRICKS and STOCK together; the nearest one to BRICKS; NONE";
        for (int stock = 0; stock <= 9; stock++) {
            for (int v = 0; v <= 9; v++) {
                FlyFloor y = with("f11" + stock + ";l9000;l0900");
                due("9, 0 BRICKS, STOCK " + stock + ", v " + v, y.balance(0, v), 9 - v > stock ? NONE : 9 - v);
                due("0, 9 BRICKS, v " + v, y.balance(1, v), v);
            }
        }
        FlyFloor y = with("f110;a5900;w5900;a5550;w5590");
        due("an ARBOR to 0", y.balance(0, 0), 6);
        due("a WINCH to 0", y.balance(1, 0), 6);
        due("an ARBOR to 1", y.balance(0, 1), 7);
        due("a WINCH to 1", y.balance(1, 1), 8);
        due("as it is, at any HEIGHT", y.balance(2, 0) * 10 + y.balance(3, 0), 55);
        FlyFloor z = with("f615;l9900;l9000");
        z.brick(0, 0);
        due("STOCK above 9: 9 at most", z.balance(0, 0), 9);
        due("what is not moved", z.many(3) * 10 + z.ofBatten(0, 2), 140);
    }

    // ---- 4 how hard it was

    /** A LOFT with so many READINGS. */
    private static FlyFloor read(int count) {
        FlyFloor x = with(FIVE);
        for (int k = 0; k < count; k++) {
            x.reading(0, 1, k);
        }
        return x;
    }

    private static void readings() {
        sentence = "20 reading: d (1 .. 9), v (0 .. 81). UNKNOWN; OUTSIDE; FULL";
        for (int d = 1; d <= 9; d++) {
            due("d " + d, with(FIVE).reading(4, d, 0), 0);
        }
        for (int v = 0; v <= 81; v++) {
            due("v " + v, with(FIVE).reading(0, 1, v), 0);
        }
        for (int count : new int[] {0, 1, 7, 8}) {
            Supplier<FlyFloor> start = () -> read(count);
            for (int b : new int[] {-1, 5, MIN, MAX}) {
                refusedNamingNone(start, "BATTEN " + b, f -> f.reading(b, 0, 82), UNKNOWN);
            }
            for (int d : new int[] {0, 10, -1, MIN, MAX}) {
                refusedNamingNone(start, "d " + d, f -> f.reading(0, d, 0), OUTSIDE);
            }
            for (int v : new int[] {-1, 82, MIN, MAX}) {
                refusedNamingNone(start, "v " + v, f -> f.reading(0, 1, v), OUTSIDE);
            }
        }
        sentence = "4 READINGS, 8 at most, numbered by how many there are";
        for (int count = 0; count < 8; count++) {
            FlyFloor x = read(count);
            due("number " + count, x.reading(0, 1, 0), count);
            due("READINGS", x.many(5), count + 1);
        }
        refusedNamingNone(() -> read(8), "a ninth", f -> f.reading(0, 1, 0), FULL);
        due("no LOFT", new FlyFloor().reading(0, 0, 82), UNKNOWN);
        sentence = "21 back: k (0 .. as many as there are): how many are left. OUTSIDE";
        for (int k = 0; k <= 8; k++) {
            FlyFloor y = read(8);
            due("back(" + k + ")", y.back(k), 8 - k);
            due("READINGS", y.many(5), 8 - k);
            int left = 8 - k;
            for (int more : new int[] {left + 1, -1, MIN, MAX}) {
                refusedNamingNone(() -> read(left), "back(" + more + ") of " + left, f -> f.back(more), OUTSIDE);
            }
            due("the next", y.reading(0, 1, 0), left == 8 ? FULL : left);
        }
        due("no LOFT, 0", new FlyFloor().back(0), 0);
        due("no LOFT, 1", new FlyFloor().back(1), OUTSIDE);
        sentence = "21 back: the last are taken back, the first stay";
        FlyFloor y = with(FIVE);
        y.reading(0, 1, 1);
        y.reading(0, 1, 2);
        due("back(1)", y.back(1), 1);
        due("LOADS by the first", y.loads(0), 1 << 2 | 1 << 4);
    }

    private static void whatReadingsTell() {
        sentence = "4: LOADS 0 .. 9, WEIGHTS 0 .. 9, KINDS 0 .. 2: all, where there are no READINGS";
        FlyFloor x = with(FIVE);
        for (int b = 0; b < 5; b++) {
            due("LOADS", x.loads(b), 1023);
            due("WEIGHTS", x.weights(b), 1023);
            due("KINDS", x.kinds(b), 7);
        }
        sentence = "4: an EFFORT of PULL times d";
        for (int d = 1; d <= 9; d++) {
            for (int v = 0; v <= 81; v++) {
                FlyFloor y = with("f110;l0000;l9900");
                y.reading(0, d, v);
                y.reading(1, d, 0);
                due("LOADS by " + d + ", " + v, y.loads(0), v % d == 0 && v / d <= 9 ? 1 << v / d : 0);
                due("WEIGHTS by " + d + ", " + v, y.weights(0), v % d == 0 && v / d <= 9 ? 1 << v / d : 0);
                due("KINDS by " + d + ", " + v, y.kinds(0), v == 0 ? 7 : 0);
            }
        }
        FlyFloor y = with("f110;a5500;w5500;l5400");
        y.reading(0, 9, 0);
        due("LOADS of an ARBOR", y.loads(0), 7 << 4);
        y.reading(1, 9, 9);
        due("LOADS of a WINCH, PULL 1", y.loads(1), 1 << 2 | 1 << 3 | 1 << 7 | 1 << 8);
        y.back(1);
        y.reading(2, 1, 1);
        due("KINDS, apart by 1", y.kinds(2), 1);
        y.back(1);
        y.reading(2, 1, 0);
        due("KINDS, apart by 1, PULL 0", y.kinds(2), 6);
        sentence = "22, 23, 24: UNKNOWN";
        for (int b : new int[] {-1, 5, MIN, MAX}) {
            refusedNamingNone(LADEN, "loads(" + b + ")", f -> f.loads(b), UNKNOWN);
            refusedNamingNone(LADEN, "weights(" + b + ")", f -> f.weights(b), UNKNOWN);
            refusedNamingNone(LADEN, "kinds(" + b + ")", f -> f.kinds(b), UNKNOWN);
            due("no LOFT", new FlyFloor().loads(b) + new FlyFloor().weights(b) + new FlyFloor().kinds(b), -3);
        }
        due("no LOFT", new FlyFloor().loads(0) + new FlyFloor().weights(0) + new FlyFloor().kinds(0), -3);
    }

    private static void odds() {
        sentence = "25 odds: shares in least terms, the lower number above 0";
        for (int n = 2; n <= 8; n++) {
            FlyFloor x = with("f110" + LIGHT.repeat(n));
            for (int b = 0; b < n; b++) {
                due("upper of " + b, x.odds(b, 0), 1);
                due("lower of " + b, x.odds(b, 1), 2L << b);
            }
        }
        FlyFloor sure = with("f190;l0001;l0002;l0003;l0003");
        due("at any HEIGHT", sure.odds(0, 0) * 10 + sure.odds(0, 1), 11);
        due("by 2", sure.odds(1, 0) * 10 + sure.odds(1, 1), 12);
        due("by 4", sure.odds(2, 0) * 10 + sure.odds(2, 1), 14);
        due("alike up", sure.odds(3, 0) * 100 + sure.odds(3, 1), 116);
        sure.trim(8);
        due("an EDGE of TRIM", sure.odds(0, 0) * 10 + sure.odds(0, 1), 12);
        due("how all is now is nothing to it", with("f190;l0091;l0000").odds(0, 1), 1);
        sentence = "25 odds: LOST: UNKNOWN; OUTSIDE";
        for (int b : new int[] {-1, 5, MIN, MAX}) {
            refusedNamingNone(LADEN, "BATTEN " + b, f -> f.odds(b, 0), LOST);
        }
        for (int which : new int[] {-1, 2, MIN, MAX}) {
            refusedNamingNone(LADEN, "which " + which, f -> f.odds(0, which), LOST);
        }
        due("no LOFT", new FlyFloor().odds(0, 0), LOST);
    }

    // ---- 5 sheets, parts

    private static void sheets() {
        sentence = "26 sheet: a row of 0 .. 60 numbers (0 at first): 1";
        for (int lane = 0; lane < 3; lane++) {
            for (int n = 0; n <= 60; n++) {
                FlyFloor x = new FlyFloor();
                due("sheet of " + n, x.sheet(3, lane, n), 1);
                due("fault()", x.fault(), 0);
                due("the last cell", x.cell(3, n - 1, lane), n == 0 ? LOST : 0);
                due("the first cell", x.cell(3, 0, lane), n == 0 ? LOST : 0);
                due("behind the last", x.put(3, n, 1), INDEX);
                due("none from there", x.loft(3, lane, n, 0), -100);
                due("one from there", x.loft(3, lane, n, 1), INDEX);
            }
        }
        sentence = "26 sheet: UNKNOWN; OUTSIDE: lane, n above 60; SIZE";
        for (int k : new int[] {-1, 4, MIN, MAX}) {
            refused(LADEN, "sheet " + k, f -> f.sheet(k, 3, -1), UNKNOWN);
        }
        for (int k = 0; k < 4; k++) {
            int sheet = k;
            for (int lane : new int[] {-1, 3, MIN, MAX}) {
                refused(LADEN, "lane " + lane, f -> f.sheet(sheet, lane, -1), OUTSIDE);
            }
            refused(LADEN, "n 61", f -> f.sheet(sheet, 0, 61), OUTSIDE);
            refused(LADEN, "n MAX", f -> f.sheet(sheet, 0, MAX), OUTSIDE);
            refused(LADEN, "n -1", f -> f.sheet(sheet, 0, -1), SIZE);
            refused(LADEN, "n MIN", f -> f.sheet(sheet, 0, MIN), SIZE);
        }
        sentence = "26 sheet: a new row has 0 in all its cells, longer or shorter";
        FlyFloor y = new FlyFloor();
        for (int n : new int[] {60, 3, 60}) {
            y.sheet(0, 2, n);
            for (int i = 0; i < n; i++) {
                due("cell " + i + " of " + n, y.cell(0, i, 2), 0);
                y.put(0, i, i + 1);
            }
        }
        due("of another LANE", y.sheet(0, 1, 5), 1);
        due("0 again", y.cell(0, 4, 1), 0);
        due("the LANE of before", y.cell(0, 4, 2), LOST);
        due("CAST", y.fault(), 2);
        losing();
    }

    private static void losing() {
        sentence = "27 lose: a SHEET has nothing: 1; 0: it had nothing. UNKNOWN";
        for (int k = 0; k < 4; k++) {
            FlyFloor x = new FlyFloor();
            due("it had nothing", x.lose(k), 0);
            x.sheet(k, 1, k == 0 ? 0 : 60);
            due("it had a row", x.lose(k), 1);
            due("it has nothing", x.put(k, 0, 0), NULL);
            due("again", x.lose(k), 0);
            due("it names no FAULTS", x.fault(), 1);
            due("a new row", x.sheet(k, 1, 1) + x.put(k, 0, 7), 2);
            due("it", x.cell(k, 0, 1), 7);
        }
        FlyFloor x = laden();
        for (int k : new int[] {-1, 4, MIN, MAX}) {
            refusedNamingNone(LADEN, "lose(" + k + ")", f -> f.lose(k), UNKNOWN);
        }
        due("the others stay", x.lose(1) + x.cell(2, 1, 1), -299);
    }

    private static void cutting() {
        sentence = "5: what comes to a cell is cut to its LANE";
        int[] numbers = {0, 1, -1, 127, 128, -128, -129, 255, 256, 257, 32767, 32768, -32768, -32769, 65535, 65536,
            MAX, MIN, MAX - 1, MIN + 1};
        FlyFloor x = new FlyFloor();
        x.sheet(0, 0, 60);
        x.sheet(1, 1, 60);
        x.sheet(2, 2, 60);
        for (int v : numbers) {
            due("put", x.put(0, 59, v) + x.put(1, 59, v) + x.put(2, 59, v), 3);
            due(v + " as a byte", x.cell(0, 59, 0), Math.floorMod(v + 128L, 256L) - 128L);
            due(v + " as a short", x.cell(1, 59, 1), Math.floorMod(v + 32768L, 65536L) - 32768L);
            due(v + " as an int", x.cell(2, 59, 2), v);
            due("the cell ahead", x.cell(0, 58, 0) + x.cell(1, 58, 1) + x.cell(2, 58, 2), 0);
        }
    }

    private static void putsAndCells() {
        sentence = "28 put: UNKNOWN; NULL; INDEX";
        FlyFloor x = laden();
        for (int k : new int[] {-1, 4, MIN, MAX}) {
            refused(LADEN, "put in " + k, f -> f.put(k, -1, 0), UNKNOWN);
            refusedAs(LADEN, "cell of " + k, f -> f.cell(k, -1, 3), LOST, 0);
        }
        for (int i : new int[] {-1, 0, 60, MIN, MAX}) {
            refused(LADEN, "put in nothing", f -> f.put(3, i, 0), NULL);
            refusedAs(LADEN, "cell of nothing", f -> f.cell(3, i, 1), LOST, 1);
            refusedAs(LADEN, "cell of nothing by no lane", f -> f.cell(3, i, 3), LOST, 0);
        }
        for (int i : new int[] {-1, 4, 60, MIN, MAX}) {
            refused(LADEN, "put at " + i, f -> f.put(2, i, 9), INDEX);
            sentence = "29 cell: LOST: UNKNOWN, OUTSIDE: lane; FAULTS CAST (nothing is no CAST), NULL, INDEX";
            refusedAs(LADEN, "cell at " + i, f -> f.cell(2, i, 1), LOST, 3);
            refusedAs(LADEN, "cell at " + i + " as bytes", f -> f.cell(2, i, 0), LOST, 2);
            refusedAs(LADEN, "cell at " + i + " as ints", f -> f.cell(2, i, 2), LOST, 2);
            refusedAs(LADEN, "cell at " + i + " by lane -1", f -> f.cell(2, i, -1), LOST, 0);
            refusedAs(LADEN, "cell at " + i + " by lane 3", f -> f.cell(2, i, 3), LOST, 0);
        }
        due("the first", x.put(2, 0, 5) + x.cell(2, 0, 1), 6);
        due("the last", x.put(2, 3, 6) + x.cell(2, 3, 1), 7);
        due("fault()", x.fault(), 0);
        Supplier<FlyFloor> empty = () -> pairs(new FlyFloor());
        refused(empty, "put in a row of none", f -> f.put(1, 0, 1), INDEX);
        refusedAs(empty, "cell of a row of none", f -> f.cell(1, 0, 2), LOST, 3);
    }

    private static FlyFloor twoRows() {
        FlyFloor x = pairs(new FlyFloor(), 1, 2, 3, 4, 5);
        x.sheet(2, 2, 3);
        x.sheet(0, 0, 5);
        return x;
    }

    private static void copies() {
        sentence = "30 copy: UNKNOWN; FAULTS NULL (the first, the other), CAST (unlike LANES), INDEX";
        Supplier<FlyFloor> x = FlyFloorEdges::twoRows;
        for (int k : new int[] {-1, 4, MIN, MAX}) {
            refused(x, "from " + k, f -> f.copy(k, -1, 3, -1, -1), UNKNOWN);
            refused(x, "to " + k, f -> f.copy(3, -1, k, -1, -1), UNKNOWN);
        }
        refused(x, "from nothing", f -> f.copy(3, -1, 1, -1, -1), NULL);
        refused(x, "to nothing", f -> f.copy(1, -1, 3, -1, -1), NULL);
        refused(x, "from nothing to nothing", f -> f.copy(3, 0, 3, 0, 0), NULL);
        refused(x, "ints to bytes", f -> f.copy(1, -1, 0, -1, -1), CAST);
        refused(x, "bytes to ints, none of them", f -> f.copy(0, 0, 1, 0, 0), CAST);
        int[][] beyond = {
            {-1, 0, 0}, {6, 0, 0}, {0, -1, 0}, {0, 4, 0}, {0, 0, -1}, {5, 0, 1}, {0, 3, 1}, {3, 0, 3}, {0, 1, 3},
            {0, 0, 4}, {MIN, 0, 0}, {0, MIN, 0}, {0, 0, MIN}, {MAX, 0, 0}, {0, MAX, 0}, {0, 0, MAX}, {MAX, MAX, MAX},
            {MIN, MIN, MIN}, {MAX, 0, 1}, {0, MAX, 1}, {1, 1, MAX}, {-1, 0, 1}, {0, -1, 1},
        };
        for (int[] row : beyond) {
            String call = "copy " + row[0] + ", " + row[1] + ", " + row[2];
            refused(x, call, f -> f.copy(1, row[0], 2, row[1], row[2]), INDEX);
        }
        sentence = "30 copy: n cells from i on go to another one from j on: n";
        for (int i = 0; i <= 5; i++) {
            for (int j = 0; j <= 3; j++) {
                for (int n = 0; n <= Math.min(5 - i, 3 - j); n++) {
                    FlyFloor y = twoRows();
                    due("copy " + i + ", " + j + ", " + n, y.copy(1, i, 2, j, n), n);
                    due("fault()", y.fault(), 0);
                    for (int c = 0; c < 3; c++) {
                        due("cell " + c, y.cell(2, c, 2), c >= j && c < j + n ? i + 1 + c - j : 0);
                    }
                }
            }
        }
        sentence = "30 copy: perhaps the same, as they were";
        for (int i = 0; i <= 5; i++) {
            for (int j = 0; j <= 5; j++) {
                int n = 5 - Math.max(i, j);
                FlyFloor y = twoRows();
                due("copy " + i + ", " + j + ", " + n, y.copy(1, i, 1, j, n), n);
                for (int c = 0; c < 5; c++) {
                    due("cell " + c, y.cell(1, c, 2), c >= j && c < j + n ? i + 1 + c - j : c + 1);
                }
            }
        }
    }

    private static void tellings() {
        sentence = "31 tell: UNKNOWN; TRACE is an int that wraps, 0 at first";
        FlyFloor x = with("f119;l9000;a9000;w9000");
        int trace = 0;
        for (int k = 0; k < 20; k++) {
            due("a WINCH", x.tell(2), 118);
            for (int body : new int[] {3, 2, 1, 1}) {
                trace = 31 * trace + body;
            }
            due("TRACE", x.trace(), trace);
        }
        due("an ARBOR", x.tell(1), 109);
        due("TRACE", x.trace(), trace = (trace * 31 + 2) * 31 + 1);
        due("a LINE", x.tell(0), 9);
        due("TRACE", x.trace(), trace = trace * 31 + 1);
        due("no LOAD", with("f119;l9000;a9000;w0000").tell(2), 100);
        sentence = "32 call: UNKNOWN; a lent body (4): its number; WINCHES have their own (5): 40";
        FlyFloor y = with("f119" + ";w0000" + LIGHT.repeat(5) + ";a0000;l0000");
        due("WINCH 0", y.call(0), 40);
        due("TRACE", y.trace(), 5);
        due("LINE 1", y.call(1), 1);
        due("TRACE", y.trace(), 159);
        due("ARBOR 6", y.call(6), 6);
        due("TRACE", y.trace(), 4933);
        due("LINE 7", y.call(7), 7);
        due("LINE 0", x.call(0), 0);
        for (int b : new int[] {-1, 5, MIN, MAX}) {
            refusedNamingNone(LADEN, "tell(" + b + ")", f -> f.tell(b), UNKNOWN);
            refusedNamingNone(LADEN, "call(" + b + ")", f -> f.call(b), UNKNOWN);
        }
        due("no LOFT", new FlyFloor().tell(0) + new FlyFloor().call(0), 2 * UNKNOWN);
    }

    private static void takenAs() {
        sentence = "33 as: each is a LINE, too; a WINCH is an ARBOR; CAST: it is none";
        FlyFloor x = THREE_KINDS.get();
        for (int b = 0; b < 3; b++) {
            for (int kind = 0; kind <= b; kind++) {
                x.put(3, 0, 0);
                due("as(" + b + ", " + kind + ")", x.as(b, kind), 1);
                due("fault()", x.fault(), 0);
            }
        }
        refused(THREE_KINDS, "as(0, 1)", f -> f.as(0, 1), CAST);
        refused(THREE_KINDS, "as(0, 2)", f -> f.as(0, 2), CAST);
        refused(THREE_KINDS, "as(1, 2)", f -> f.as(1, 2), CAST);
        for (int b : new int[] {-1, 3, MIN, MAX}) {
            refused(THREE_KINDS, "BATTEN " + b, f -> f.as(b, 3), UNKNOWN);
        }
        for (int kind : new int[] {-1, 3, MIN, MAX}) {
            refused(THREE_KINDS, "kind " + kind, f -> f.as(2, kind), OUTSIDE);
        }
        due("no LOFT", new FlyFloor().as(0, 3), UNKNOWN);
    }

    private static void faults() {
        sentence = "35 fault: of the latest call that names one: 0: it came to none, or was refused";
        FlyFloor x = laden();
        LongSupplier[] naming = {
            () -> x.loft(0, 0, 0, 5), () -> x.cue(1, 2, 0, 0), () -> x.act(1, 2, 0, 0, 0),
            () -> x.split(1, 2, 0, 0, 0), () -> x.crew(1, 2, 0, 0), () -> x.sheet(3, 0, 1),
            () -> x.put(0, 0, 1), () -> x.cell(0, 0, 0), () -> x.copy(0, 0, 0, 0, 1), () -> x.as(0, 0),
        };
        LongSupplier[] others = {
            () -> x.ofBatten(0, 0), () -> x.seen(), () -> x.hides(0), () -> x.hire(3), () -> x.trim(3),
            () -> x.fly(0, 1), () -> x.fly(0, 0), () -> x.hang(0, 4), () -> x.brick(0, 4), () -> x.undo(),
            () -> x.keep(0), () -> x.restore(0), () -> x.picture(1, 0), () -> x.balance(0, 0),
            () -> x.reading(0, 1, 1), () -> x.back(1), () -> x.loads(0), () -> x.weights(0),
            () -> x.kinds(0), () -> x.odds(0, 0), () -> x.lose(3), () -> x.tell(0), () -> x.call(0),
            () -> x.trace(), () -> x.fault(), () -> x.many(0),
        };
        for (int k = 0; k < naming.length; k++) {
            due("a FAULT", x.as(0, 1), CAST);
            due("fault()", x.fault(), 2);
            naming[k].getAsLong();
            due("fault() behind one that came to none, " + k, x.fault(), 0);
        }
        due("a FAULT", x.as(0, 1), CAST);
        for (int k = 0; k < others.length; k++) {
            due("a call that names none is not refused, " + k, others[k].getAsLong() >= NONE ? 1 : 0, 1);
            due("fault() behind one that names none, " + k, x.fault(), 2);
        }
        sentence = "35 fault: each of them";
        due("NULL", x.put(3, 0, 0) * 10 + x.fault(), -109);
        due("CAST", x.as(0, 2) * 10 + x.fault(), -118);
        due("INDEX", x.put(0, 60, 0) * 10 + x.fault(), -127);
        due("SIZE", x.sheet(0, 0, -1) * 10 + x.fault(), -136);
        due("and again", x.fault(), 4);
    }

    private static void manys() {
        sentence = "36 many: 0 .. 5. OUTSIDE";
        FlyFloor x = laden();
        int[] wanted = {5, 3, 5, 3, 3, 2};
        for (int what = 0; what <= 5; what++) {
            due("many(" + what + ")", x.many(what), wanted[what]);
        }
        for (int what : new int[] {-1, 6, MIN, MAX}) {
            refusedNamingNone(LADEN, "many(" + what + ")", f -> f.many(what), OUTSIDE);
            refusedNamingNone(NEW, "no LOFT, many(" + what + ")", f -> f.many(what), OUTSIDE);
        }
        for (int n = 2; n <= 8; n++) {
            due("BATTENS", with("f110" + LIGHT.repeat(n)).many(0), n);
        }
    }

    public static void main(String[] args) {
        newObject();
        everyCode();
        everyLength();
        textWithinARow();
        loftRefused();
        allAnew();
        pullsAndEdges();
        ofBattenRefused();
        seenAtTheEdge();
        hiding();
        hiring();
        handsForACue();
        fouling();
        flying();
        cues();
        pairsOfAllCalls();
        twice();
        hanging();
        runningAway();
        bricking();
        undoing();
        images();
        acts();
        pictures();
        splits();
        crews();
        balances();
        readings();
        whatReadingsTell();
        odds();
        sheets();
        cutting();
        putsAndCells();
        copies();
        tellings();
        takenAs();
        faults();
        manys();
        System.out.println(wrong == 0 ? asked + " answers are as due" : wrong + " answers are not as due");
        if (wrong != 0) {
            System.exit(1);
        }
    }
}
