/** The fly floor of a theatre; the answers of every call are told in the document. */
public final class FlyFloor {
    public static final int UNKNOWN = -1, OUTSIDE = -2, STATE = -3, FULL = -4, NONE = -9;
    public static final long LOST = Long.MIN_VALUE;

    private static final int NULL = 1, CAST = 2, INDEX = 3, SIZE = 4;
    private static final int MOST_SHEETS = 4, MOST_CELLS = 60, LANES = 3;
    private static final int MOST_BATTENS = 8, MOST_HANDS = 6, TOP = 9;
    private static final int MOST_MOVES = 20, MOST_CUE = 8, MOST_SPLIT = 5;
    private static final int MOST_IMAGES = 2, MOST_UNDONE = 8;
    private static final int MOST_READINGS = 8, MOST_EFFORT = 81;
    private static final int LINE = 0, ARBOR = 1, WINCH = 2;

    private final Sheet[] sheets;
    private final Loft loft;
    private final Past past;
    private final Rig[] images;
    private final boolean[] kept;
    private final Readings readings;
    private final Moves moves;
    private final Act told;
    private final Picture shown;
    private final Split parted;
    private int left;
    private int lastFault;

    public FlyFloor() {
        sheets = new Sheet[MOST_SHEETS];
        for (int k = 0; k < MOST_SHEETS; k++) {
            sheets[k] = new Sheet();
        }
        images = new Rig[MOST_IMAGES];
        for (int k = 0; k < MOST_IMAGES; k++) {
            images[k] = new Rig();
        }
        kept = new boolean[MOST_IMAGES];
        loft = new Loft();
        past = new Past();
        readings = new Readings();
        moves = new Moves();
        told = new Act();
        shown = new Picture();
        parted = new Split();
    }

    // ---- 1 the loft

    public int loft(int sheet, int lane, int i, int n) {
        lastFault = 0;
        if (!isSheet(sheet)) {
            return UNKNOWN;
        }
        if (!isLane(lane)) {
            return OUTSIDE;
        }
        Sheet text = sheets[sheet];
        int wrong = text.faultOf(lane, i, n);
        if (wrong != 0) {
            return faulted(wrong);
        }
        int place = Text.firstFault(text.cells, i, n);
        if (place != NONE) {
            return -100 - place;
        }
        loft.build(text.cells, i, n);
        past.forget();
        readings.count = 0;
        for (int k = 0; k < MOST_IMAGES; k++) {
            kept[k] = false;
        }
        return loft.count;
    }

    public int ofBatten(int b, int what) {
        if (!loft.has(b)) {
            return UNKNOWN;
        }
        switch (what) {
            case 0: return loft.kind[b];
            case 1: return loft.now.load[b];
            case 2: return loft.now.bricks[b];
            case 3: return loft.now.height[b];
            case 4: return loft.drop[b];
            case 5: return loft.pull(b);
            case 6: return loft.edge(b, loft.now.height[b]);
            default: return OUTSIDE;
        }
    }

    public int seen() {
        return loft.count == 0 ? STATE : loft.seenAt(loft.now.height);
    }

    public int hides(int b) {
        return loft.has(b) ? loft.hiderOf(b) : UNKNOWN;
    }

    public int hire(int v) {
        if (!within(v, 1, MOST_HANDS)) {
            return OUTSIDE;
        }
        if (loft.count == 0) {
            return STATE;
        }
        int before = loft.now.hands;
        loft.now.hands = v;
        return before;
    }

    public int trim(int v) {
        if (!within(v, 1, 9)) {
            return OUTSIDE;
        }
        if (loft.count == 0) {
            return STATE;
        }
        int before = loft.now.trim;
        loft.now.trim = v;
        return before;
    }

    // ---- 2 cues

    public int fly(int b, int height) {
        if (!loft.has(b)) {
            return UNKNOWN;
        }
        if (!isHeight(height)) {
            return OUTSIDE;
        }
        moves.count = 0;
        moves.add(b, height);
        return doMoves();
    }

    public int cue(int sheet, int lane, int i, int n) {
        lastFault = 0;
        if (!isSheet(sheet)) {
            return UNKNOWN;
        }
        if (!isLane(lane) || !within(n, 0, MOST_CUE)) {
            return OUTSIDE;
        }
        int stop = takeMoves(sheets[sheet], lane, i, n);
        if (stop != 0) {
            return stop;
        }
        return moves.repeatBatten() ? STATE : doMoves();
    }

    public int hang(int b, int v) {
        if (!loft.has(b)) {
            return UNKNOWN;
        }
        if (!isDigit(v)) {
            return OUTSIDE;
        }
        if (loft.now.height[b] != 0) {
            return STATE;
        }
        past.remember(loft.now);
        loft.now.load[b] = v;
        return loft.runsAway(b);
    }

    public int brick(int b, int v) {
        if (!loft.has(b)) {
            return UNKNOWN;
        }
        if (!isDigit(v)) {
            return OUTSIDE;
        }
        int more = v - loft.now.bricks[b];
        if (loft.now.height[b] != 0 || more > loft.now.stock) {
            return STATE;
        }
        past.remember(loft.now);
        loft.now.bricks[b] = v;
        loft.now.stock -= more;
        return loft.runsAway(b);
    }

    public int undo() {
        if (past.known == 0) {
            return STATE;
        }
        past.bringBack(loft.now);
        return past.known;
    }

    public int keep(int image) {
        if (!isImage(image)) {
            return UNKNOWN;
        }
        if (loft.count == 0) {
            return STATE;
        }
        images[image].takeAll(loft.now);
        kept[image] = true;
        int all = 0;
        for (int k = 0; k < MOST_IMAGES; k++) {
            all += kept[k] ? 1 : 0;
        }
        return all;
    }

    public int restore(int image) {
        if (!isImage(image)) {
            return UNKNOWN;
        }
        if (!kept[image]) {
            return STATE;
        }
        loft.now.takeAll(images[image]);
        past.forget();
        return loft.now.stock;
    }

    public int act(int sheet, int lane, int i, int n, int what) {
        lastFault = 0;
        if (!isSheet(sheet)) {
            return UNKNOWN;
        }
        boolean asksHeight = within(what, 10, 17);
        if (!isLane(lane) || !within(n, 0, MOST_MOVES) || !(asksHeight || within(what, 0, 3))) {
            return OUTSIDE;
        }
        int stop = takeMoves(sheets[sheet], lane, i, n);
        if (stop != 0) {
            return stop;
        }
        told.run(loft, moves, loft.now.hands);
        if (what == 1) {
            return told.firstWrong;
        }
        if (told.firstWrong != NONE) {
            return -100 - told.firstWrong;
        }
        if (asksHeight) {
            return loft.has(what - 10) ? told.after[what - 10] : NONE;
        }
        return what == 0 ? told.beats : what == 2 ? told.effort : loft.seenAt(told.after);
    }

    // ---- 3 pictures, cues, hands

    public int picture(int set, int k) {
        if (loft.count == 0) {
            return STATE;
        }
        if (!within(set, 0, (1 << loft.count) - 1) || !within(k, -2, MOST_BATTENS - 1)) {
            return OUTSIDE;
        }
        if (k >= loft.count || !shown.find(loft, set)) {
            return NONE;
        }
        return k == -2 ? shown.goes : k == -1 ? shown.effort : shown.height[k];
    }

    public int split(int sheet, int lane, int i, int n, int k) {
        lastFault = 0;
        if (!isSheet(sheet)) {
            return UNKNOWN;
        }
        if (!isLane(lane) || !within(n, 0, MOST_SPLIT) || !within(k, -1, MOST_SPLIT - 1)) {
            return OUTSIDE;
        }
        int stop = takeMoves(sheets[sheet], lane, i, n);
        if (stop != 0) {
            return stop;
        }
        if (moves.repeatBatten()) {
            return STATE;
        }
        if (k >= n || !parted.find(loft, moves)) {
            return NONE;
        }
        return k == -1 ? parted.cues : parted.cueOf[k];
    }

    public int crew(int sheet, int lane, int i, int n) {
        lastFault = 0;
        if (!isSheet(sheet)) {
            return UNKNOWN;
        }
        if (!isLane(lane) || !within(n, 0, MOST_MOVES)) {
            return OUTSIDE;
        }
        int stop = takeMoves(sheets[sheet], lane, i, n);
        if (stop != 0) {
            return stop;
        }
        for (int hands = 1; hands <= MOST_HANDS; hands++) {
            told.run(loft, moves, hands);
            if (told.firstWrong == NONE) {
                return hands;
            }
        }
        return NONE;
    }

    public int balance(int b, int v) {
        if (!loft.has(b)) {
            return UNKNOWN;
        }
        return isDigit(v) ? loft.balanceOf(b, v) : OUTSIDE;
    }

    // ---- 4 how hard it was

    public int reading(int b, int d, int v) {
        if (!loft.has(b)) {
            return UNKNOWN;
        }
        if (!within(d, 1, TOP) || !within(v, 0, MOST_EFFORT)) {
            return OUTSIDE;
        }
        if (readings.count >= MOST_READINGS) {
            return FULL;
        }
        int number = readings.count;
        readings.add(b, d, v);
        return number;
    }

    public int back(int k) {
        if (!within(k, 0, readings.count)) {
            return OUTSIDE;
        }
        readings.count -= k;
        return readings.count;
    }

    public int loads(int b) {
        if (!loft.has(b)) {
            return UNKNOWN;
        }
        int set = 0;
        for (int v = 0; v <= 9; v++) {
            int pull = pullOf(loft.kind[b], v, loft.now.bricks[b]);
            set |= readings.areSo(loft, b, pull) ? 1 << v : 0;
        }
        return set;
    }

    public int weights(int b) {
        if (!loft.has(b)) {
            return UNKNOWN;
        }
        int set = 0;
        for (int v = 0; v <= 9; v++) {
            int pull = pullOf(loft.kind[b], loft.now.load[b], v);
            set |= readings.areSo(loft, b, pull) ? 1 << v : 0;
        }
        return set;
    }

    public int kinds(int b) {
        if (!loft.has(b)) {
            return UNKNOWN;
        }
        int set = 0;
        for (int v = LINE; v <= WINCH; v++) {
            int pull = pullOf(v, loft.now.load[b], loft.now.bricks[b]);
            set |= readings.areSo(loft, b, pull) ? 1 << v : 0;
        }
        return set;
    }

    public long odds(int b, int which) {
        if (!loft.has(b) || !within(which, 0, 1)) {
            return LOST;
        }
        // One ahead at HEIGHT 0 has EDGE 0 and leaves none behind it SEEN: all ahead are up.
        // At HEIGHT 0 it is SEEN then, so of 2 to the (b + 1) ways there are one or two.
        boolean seenUp = loft.isSeenAmongUp(b);
        if (which == 0) {
            return 1;
        }
        return seenUp ? 1L << b : 1L << (b + 1);
    }

    // ---- 5 sheets, parts

    public int sheet(int k, int lane, int n) {
        lastFault = 0;
        if (!isSheet(k)) {
            return UNKNOWN;
        }
        if (!isLane(lane) || n > MOST_CELLS) {
            return OUTSIDE;
        }
        if (n < 0) {
            return faulted(SIZE);
        }
        sheets[k].renew(lane, n);
        return 1;
    }

    public int lose(int k) {
        if (!isSheet(k)) {
            return UNKNOWN;
        }
        boolean had = sheets[k].hasRow;
        sheets[k].hasRow = false;
        return had ? 1 : 0;
    }

    public int put(int k, int i, int v) {
        lastFault = 0;
        if (!isSheet(k)) {
            return UNKNOWN;
        }
        int wrong = sheets[k].faultOf(sheets[k].lane, i, 1);
        if (wrong != 0) {
            return faulted(wrong);
        }
        sheets[k].set(i, v);
        return 1;
    }

    public long cell(int k, int i, int lane) {
        lastFault = 0;
        if (!isSheet(k) || !isLane(lane)) {
            return LOST;
        }
        int wrong = sheets[k].faultOf(lane, i, 1);
        if (wrong != 0) {
            lastFault = wrong;
            return LOST;
        }
        return sheets[k].cells[i];
    }

    public int copy(int k, int i, int other, int j, int n) {
        lastFault = 0;
        if (!isSheet(k) || !isSheet(other)) {
            return UNKNOWN;
        }
        Sheet from = sheets[k];
        Sheet to = sheets[other];
        if (!from.hasRow || !to.hasRow) {
            return faulted(NULL);
        }
        if (from.lane != to.lane) {
            return faulted(CAST);
        }
        if (n < 0 || !from.hasCells(i, n) || !to.hasCells(j, n)) {
            return faulted(INDEX);
        }
        System.arraycopy(from.cells, i, to.cells, j, n);
        return n;
    }

    public int tell(int b) {
        if (!loft.has(b)) {
            return UNKNOWN;
        }
        int load = loft.now.load[b];
        switch (loft.kind[b]) {
            case LINE: return lineTells(load);
            case ARBOR: return arborTells(load);
            default: return winchTells(load);
        }
    }

    public int call(int b) {
        if (!loft.has(b)) {
            return UNKNOWN;
        }
        if (loft.kind[b] == WINCH) {
            leave(5);
            return 40;
        }
        leave(4);
        return b;
    }

    public int as(int b, int kind) {
        lastFault = 0;
        if (!loft.has(b)) {
            return UNKNOWN;
        }
        if (!within(kind, LINE, WINCH)) {
            return OUTSIDE;
        }
        return loft.kind[b] < kind ? faulted(CAST) : 1;
    }

    public int trace() {
        return left;
    }

    public int fault() {
        return lastFault;
    }

    public int many(int what) {
        switch (what) {
            case 0: return loft.count;
            case 1: return loft.now.hands;
            case 2: return loft.now.trim;
            case 3: return loft.now.stock;
            case 4: return past.known;
            case 5: return readings.count;
            default: return OUTSIDE;
        }
    }

    // ---- what several calls use

    private static boolean within(int v, int least, int most) {
        return v >= least && v <= most;
    }

    private static boolean isDigit(int v) {
        return within(v, 0, 9);
    }

    private static boolean isHeight(int v) {
        return within(v, 0, TOP);
    }

    private static boolean isSheet(int k) {
        return within(k, 0, MOST_SHEETS - 1);
    }

    private static boolean isLane(int lane) {
        return within(lane, 0, LANES - 1);
    }

    private static boolean isImage(int image) {
        return within(image, 0, MOST_IMAGES - 1);
    }

    private static int pullOf(int kind, int load, int bricks) {
        int apart = Math.abs(load - bricks);
        switch (kind) {
            case LINE: return apart;
            case ARBOR: return Math.max(apart - 1, 0);
            default: return apart / 2;
        }
    }

    private int faulted(int which) {
        lastFault = which;
        return -10 - which;
    }

    /** Reads n pairs into moves: 0, or what the call answers in place of going on. */
    private int takeMoves(Sheet from, int lane, int i, int n) {
        int wrong = from.faultOf(lane, i, 2 * n);
        if (wrong != 0) {
            return faulted(wrong);
        }
        if (loft.count == 0) {
            return STATE;
        }
        moves.count = 0;
        for (int k = 0; k < n; k++) {
            int b = from.cells[i + 2 * k];
            int height = from.cells[i + 2 * k + 1];
            if (!loft.has(b)) {
                return UNKNOWN;
            }
            if (!isHeight(height)) {
                return OUTSIDE;
            }
            moves.add(b, height);
        }
        return 0;
    }

    /** Does moves as one CUE: its BEATS, or STATE. */
    private int doMoves() {
        int[] after = told.after;
        System.arraycopy(loft.now.height, 0, after, 0, MOST_BATTENS);
        for (int k = 0; k < moves.count; k++) {
            after[moves.batten[k]] = moves.height[k];
        }
        if (!loft.canBe(loft.now.height, after, loft.now.hands)) {
            return STATE;
        }
        int beats = loft.beats(loft.now.height, after);
        past.remember(loft.now);
        System.arraycopy(after, 0, loft.now.height, 0, MOST_BATTENS);
        return beats;
    }

    private void leave(int body) {
        left = 31 * left + body;
    }

    private int lineTells(int load) {
        leave(1);
        return load;
    }

    private int arborTells(int load) {
        leave(2);
        return lineTells(load) + 100;
    }

    private int winchTells(int load) {
        leave(3);
        int byArbor = arborTells(load);
        return byArbor + lineTells(load);
    }

    /** A SHEET. Its cells are made once, for the longest row of the widest LANE. */
    private static final class Sheet {
        final int[] cells = new int[MOST_CELLS];
        boolean hasRow;
        int lane;
        int length;

        void renew(int newLane, int n) {
            hasRow = true;
            lane = newLane;
            length = n;
            for (int i = 0; i < n; i++) {
                cells[i] = 0;
            }
        }

        void set(int i, int v) {
            cells[i] = lane == 0 ? (byte) v : lane == 1 ? (short) v : v;
        }

        boolean hasCells(int i, int n) {
            return i >= 0 && i <= length && n <= length - i;
        }

        /** The first FAULT of taking n cells from i on as a row of a LANE; 0: there is none. */
        int faultOf(int asLane, int i, int n) {
            if (!hasRow) {
                return NULL;
            }
            if (lane != asLane) {
                return CAST;
            }
            if (n < 0) {
                return SIZE;
            }
            return hasCells(i, n) ? 0 : INDEX;
        }
    }

    /** The TEXT of a LOFT: four codes, then six for each BATTEN. */
    private static final class Text {
        static final int HEAD = 4, EACH = 6;

        /** The place of the FIRST FAULT of n codes from i on; NONE: it is a TEXT. */
        static int firstFault(int[] codes, int i, int n) {
            for (int place = 0; place < n; place++) {
                if (!goesOn(place, codes[i + place])) {
                    return place;
                }
            }
            boolean whole = n >= HEAD + 2 * EACH && (n - HEAD) % EACH == 0;
            return whole ? NONE : n;
        }

        static boolean goesOn(int place, int code) {
            if (place >= HEAD + MOST_BATTENS * EACH) {
                return false;
            }
            switch (place) {
                case 0: return code == 'f';
                case 1: return within(code, '1', '6');
                case 2: return within(code, '1', '9');
                case 3: return within(code, '0', '9');
                default: return ofBattenGoesOn((place - HEAD) % EACH, code);
            }
        }

        static boolean ofBattenGoesOn(int place, int code) {
            switch (place) {
                case 0: return code == ';';
                case 1: return code == 'l' || code == 'a' || code == 'w';
                case 5: return within(code, '0', '3');
                default: return within(code, '0', '9');
            }
        }

        static int kindOf(int code) {
            return code == 'l' ? LINE : code == 'a' ? ARBOR : WINCH;
        }
    }

    /** What may change in a LOFT. */
    private static final class Rig {
        final int[] load = new int[MOST_BATTENS];
        final int[] bricks = new int[MOST_BATTENS];
        final int[] height = new int[MOST_BATTENS];
        int stock;
        int hands;
        int trim;

        /** HANDS and TRIM stay: what is UNDONE does not go back on them. */
        void takeMoved(Rig other) {
            System.arraycopy(other.load, 0, load, 0, MOST_BATTENS);
            System.arraycopy(other.bricks, 0, bricks, 0, MOST_BATTENS);
            System.arraycopy(other.height, 0, height, 0, MOST_BATTENS);
            stock = other.stock;
        }

        void takeAll(Rig other) {
            takeMoved(other);
            hands = other.hands;
            trim = other.trim;
        }
    }

    /** What may be UNDONE: a ring, so that the oldest is lost where a ninth comes. */
    private static final class Past {
        final Rig[] rigs;
        int known;
        int next;

        Past() {
            rigs = new Rig[MOST_UNDONE];
            for (int k = 0; k < MOST_UNDONE; k++) {
                rigs[k] = new Rig();
            }
        }

        void forget() {
            known = 0;
        }

        void remember(Rig now) {
            rigs[next].takeMoved(now);
            next = (next + 1) % MOST_UNDONE;
            known = Math.min(known + 1, MOST_UNDONE);
        }

        void bringBack(Rig now) {
            next = (next + MOST_UNDONE - 1) % MOST_UNDONE;
            known--;
            now.takeMoved(rigs[next]);
        }
    }

    /** The BATTENS; there is no LOFT while there are none. */
    private static final class Loft {
        final int[] kind = new int[MOST_BATTENS];
        final int[] drop = new int[MOST_BATTENS];
        final Rig now = new Rig();
        int count;

        void build(int[] codes, int i, int n) {
            now.hands = codes[i + 1] - '0';
            now.trim = codes[i + 2] - '0';
            now.stock = codes[i + 3] - '0';
            count = (n - Text.HEAD) / Text.EACH;
            for (int b = 0; b < count; b++) {
                int at = i + Text.HEAD + b * Text.EACH;
                kind[b] = Text.kindOf(codes[at + 1]);
                now.load[b] = codes[at + 2] - '0';
                now.bricks[b] = codes[at + 3] - '0';
                now.height[b] = codes[at + 4] - '0';
                drop[b] = codes[at + 5] - '0';
            }
        }

        boolean has(int b) {
            return b >= 0 && b < count;
        }

        int pull(int b) {
            return pullOf(kind[b], now.load[b], now.bricks[b]);
        }

        int edge(int b, int height) {
            return Math.max(height - drop[b], 0);
        }

        int seenAt(int[] height) {
            int set = 0;
            int below = now.trim;
            for (int b = 0; b < count; b++) {
                int edge = edge(b, height[b]);
                if (edge < below) {
                    set |= 1 << b;
                    below = edge;
                }
            }
            return set;
        }

        int hiderOf(int b) {
            int edge = edge(b, now.height[b]);
            if (edge >= now.trim) {
                return NONE;
            }
            for (int a = 0; a < b; a++) {
                if (edge(a, now.height[a]) <= edge) {
                    return a;
                }
            }
            return NONE;
        }

        /** If b, at HEIGHT 9 as all ahead of it, is SEEN. */
        boolean isSeenAmongUp(int b) {
            int edge = edge(b, TOP);
            for (int a = 0; a < b; a++) {
                if (edge(a, TOP) <= edge) {
                    return false;
                }
            }
            return edge < now.trim;
        }

        boolean canBe(int[] before, int[] after, int hands) {
            int pulls = 0;
            for (int b = 0; b < count; b++) {
                pulls += before[b] != after[b] ? pull(b) : 0;
                if (b + 1 < count && foul(b, before, after)) {
                    return false;
                }
            }
            return pulls <= hands;
        }

        boolean foul(int b, int[] before, int[] after) {
            if (drop[b] == 0 || drop[b + 1] == 0) {
                return false;
            }
            return before[b] > before[b + 1] && after[b] < after[b + 1]
                || before[b] < before[b + 1] && after[b] > after[b + 1];
        }

        int beats(int[] before, int[] after) {
            int most = 0;
            for (int b = 0; b < count; b++) {
                most = Math.max(most, Math.abs(after[b] - before[b]));
            }
            return most;
        }

        /** 1, if b RUNS AWAY behind a change of its LOAD or BRICKS; 0. */
        int runsAway(int b) {
            if (now.bricks[b] - now.load[b] <= now.hands) {
                return 0;
            }
            now.height[b] = TOP;
            return 1;
        }

        int balanceOf(int b, int v) {
            int own = now.bricks[b];
            int most = Math.min(own + now.stock, 9);
            int best = NONE;
            for (int bricks = 0; bricks <= most; bricks++) {
                boolean nearer = best == NONE || Math.abs(bricks - own) < Math.abs(best - own);
                if (nearer && pullOf(kind[b], now.load[b], bricks) <= v) {
                    best = bricks;
                }
            }
            return best;
        }
    }

    /** Pairs of a BATTEN and a HEIGHT, that were looked at as they were taken. */
    private static final class Moves {
        final int[] batten = new int[MOST_MOVES];
        final int[] height = new int[MOST_MOVES];
        int count;

        void add(int b, int toHeight) {
            if (count < MOST_MOVES) {
                batten[count] = b;
                height[count] = toHeight;
                count++;
            }
        }

        boolean repeatBatten() {
            int met = 0;
            for (int k = 0; k < count; k++) {
                int bit = 1 << batten[k];
                if ((met & bit) != 0) {
                    return true;
                }
                met |= bit;
            }
            return false;
        }
    }

    /** An ACT as it was told last; what it tells of one with a FIRST WRONG goes up to that. */
    private static final class Act {
        final int[] before = new int[MOST_BATTENS];
        final int[] after = new int[MOST_BATTENS];
        int beats;
        int effort;
        int firstWrong;

        void run(Loft loft, Moves moves, int hands) {
            beats = 0;
            effort = 0;
            firstWrong = NONE;
            System.arraycopy(loft.now.height, 0, before, 0, MOST_BATTENS);
            System.arraycopy(loft.now.height, 0, after, 0, MOST_BATTENS);
            for (int k = 0; k < moves.count; k++) {
                int b = moves.batten[k];
                after[b] = moves.height[k];
                if (!loft.canBe(before, after, hands)) {
                    firstWrong = k;
                    return;
                }
                int far = Math.abs(after[b] - before[b]);
                beats += far;
                effort += far * loft.pull(b);
                before[b] = after[b];
            }
        }
    }

    /**
     * A PICTURE. If a BATTEN is SEEN hangs on the least of TRIM and the EDGES ahead of it alone
     * (its bound), so the least cost of all from a BATTEN on is told by the bound there.
     */
    private static final class Picture {
        static final int BOUNDS = 10, TRIED = 3, NEVER = 1000000;
        /** Above the EFFORT of all together, so that the fewest that GO come first. */
        static final int ONE_GOES = 1000;

        /** Of each BATTEN the HEIGHTS that are tried, from the least on, and what each costs. */
        final int[] tried = new int[MOST_BATTENS * TRIED];
        final int[] cost = new int[MOST_BATTENS * TRIED];
        final int[] least = new int[(MOST_BATTENS + 1) * BOUNDS];
        final int[] height = new int[MOST_BATTENS];
        int goes;
        int effort;

        boolean find(Loft loft, int set) {
            for (int bound = 0; bound < BOUNDS; bound++) {
                least[loft.count * BOUNDS + bound] = 0;
            }
            for (int b = loft.count - 1; b >= 0; b--) {
                setTried(loft, b);
                for (int bound = 0; bound < BOUNDS; bound++) {
                    least[b * BOUNDS + bound] = leastFrom(loft, set, b, bound);
                }
            }
            int all = least[loft.now.trim];
            if (all >= NEVER) {
                return false;
            }
            goes = all / ONE_GOES;
            effort = all % ONE_GOES;
            choose(loft, set);
            return true;
        }

        void setTried(Loft loft, int b) {
            int own = loft.now.height[b];
            int pull = loft.pull(b);
            tried[b * TRIED] = 0;
            tried[b * TRIED + 1] = own;
            tried[b * TRIED + 2] = TOP;
            for (int k = b * TRIED; k < (b + 1) * TRIED; k++) {
                int far = Math.abs(tried[k] - own);
                int costToGo = pull > loft.now.hands ? NEVER : ONE_GOES + pull * far;
                cost[k] = far == 0 ? 0 : costToGo;
            }
        }

        int leastFrom(Loft loft, int set, int b, int bound) {
            int best = NEVER;
            for (int k = 0; k < TRIED; k++) {
                best = Math.min(best, costFrom(loft, set, b, bound, k));
            }
            return best;
        }

        /** The least cost of all from b on, if b is brought to the k-th HEIGHT that is tried. */
        int costFrom(Loft loft, int set, int b, int bound, int k) {
            int edge = loft.edge(b, tried[b * TRIED + k]);
            boolean wanted = (set >> b & 1) == 1;
            if ((edge < bound) != wanted) {
                return NEVER;
            }
            int behind = least[(b + 1) * BOUNDS + Math.min(bound, edge)];
            return Math.min(NEVER, cost[b * TRIED + k] + behind);
        }

        /** Of several that cost least the first as a row: at each BATTEN the least HEIGHT. */
        void choose(Loft loft, int set) {
            int bound = loft.now.trim;
            for (int b = 0; b < loft.count; b++) {
                int k = 0;
                while (k < TRIED - 1 && costFrom(loft, set, b, bound, k) != least[b * BOUNDS + bound]) {
                    k++;
                }
                height[b] = tried[b * TRIED + k];
                bound = Math.min(bound, loft.edge(b, height[b]));
            }
        }
    }

    /** A SPLIT of moves into CUES; sets of moves are told as bits. */
    private static final class Split {
        static final int SETS = 1 << MOST_SPLIT;

        /** Behind each set of moves that are done: the sets that can be the next CUE, as bits. */
        final int[] next = new int[SETS];
        /** Behind each set of moves that are done: the fewest CUES for the others; NONE. */
        final int[] fewest = new int[SETS];
        final int[] before = new int[MOST_BATTENS];
        final int[] after = new int[MOST_BATTENS];
        final int[] cueOf = new int[MOST_SPLIT];
        final int[] inCue = new int[MOST_SPLIT];
        int cues;

        boolean find(Loft loft, Moves moves) {
            int all = (1 << moves.count) - 1;
            fewest[all] = 0;
            for (int done = all - 1; done >= 0; done--) {
                next[done] = nextBehind(loft, moves, done);
                fewest[done] = fewestBehind(done, all);
            }
            cues = fewest[0];
            return cues != NONE && chooseRow(moves.count);
        }

        int nextBehind(Loft loft, Moves moves, int done) {
            int can = 0;
            System.arraycopy(loft.now.height, 0, before, 0, MOST_BATTENS);
            bring(moves, done, before);
            for (int set = 1; set < 1 << moves.count; set++) {
                if ((set & done) == 0) {
                    System.arraycopy(before, 0, after, 0, MOST_BATTENS);
                    bring(moves, set, after);
                    can |= loft.canBe(before, after, loft.now.hands) ? 1 << set : 0;
                }
            }
            return can;
        }

        static void bring(Moves moves, int set, int[] height) {
            for (int k = 0; k < moves.count; k++) {
                if ((set >> k & 1) == 1) {
                    height[moves.batten[k]] = moves.height[k];
                }
            }
        }

        int fewestBehind(int done, int all) {
            int best = NONE;
            for (int set = 1; set <= all; set++) {
                if ((next[done] >>> set & 1) == 1 && fewest[done | set] != NONE) {
                    int count = fewest[done | set] + 1;
                    best = best == NONE ? count : Math.min(best, count);
                }
            }
            return best;
        }

        /** Goes through the rows of n of the CUES in order, to the first that can be. */
        boolean chooseRow(int n) {
            int rows = 1;
            for (int k = 0; k < n; k++) {
                rows *= cues;
            }
            for (int row = 0; row < rows; row++) {
                readRow(row, n);
                if (rowCanBe()) {
                    return true;
                }
            }
            return false;
        }

        /** The first move has the highest digit, so that rows come in their order. */
        void readRow(int row, int n) {
            for (int c = 0; c < MOST_SPLIT; c++) {
                inCue[c] = 0;
            }
            int base = Math.max(cues, 1);
            int rest = row;
            for (int k = n - 1; k >= 0; k--) {
                cueOf[k] = rest % base;
                inCue[cueOf[k]] |= 1 << k;
                rest /= base;
            }
        }

        boolean rowCanBe() {
            int done = 0;
            for (int c = 0; c < cues; c++) {
                if ((next[done] >>> inCue[c] & 1) == 0) {
                    return false;
                }
                done |= inCue[c];
            }
            return true;
        }
    }

    /** READINGS: a BATTEN, by how much it was brought, what EFFORT that took. */
    private static final class Readings {
        final int[] batten = new int[MOST_READINGS];
        final int[] far = new int[MOST_READINGS];
        final int[] effort = new int[MOST_READINGS];
        int count;

        void add(int b, int d, int v) {
            if (count < MOST_READINGS) {
                batten[count] = b;
                far[count] = d;
                effort[count] = v;
                count++;
            }
        }

        /** If all are so, were b's PULL this one and those of the others as they are. */
        boolean areSo(Loft loft, int b, int pullOfB) {
            for (int k = 0; k < count; k++) {
                int pull = batten[k] == b ? pullOfB : loft.pull(batten[k]);
                if (pull * far[k] != effort[k]) {
                    return false;
                }
            }
            return true;
        }
    }
}
