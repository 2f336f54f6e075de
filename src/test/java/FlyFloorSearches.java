import java.util.Arrays;
import java.util.Random;

/** Many lofts, each asked all that is searched for, against plain searches written anew. */
public final class FlyFloorSearches {
    private static final int NONE = -9;
    private static final int LOFTS = 4000;

    private static int wrong = 0;
    private static String text = "";

    private static void due(String call, long got, long want) {
        if (got != want) {
            wrong++;
            if (wrong < 40) {
                System.out.println(text + ": " + call + " answered " + got + ", due is " + want);
            }
        }
    }

    /** A LOFT in plain rows. */
    private static final class Model {
        int hands, trim, stock, n;
        int[] kind, load, bricks, height, drop;

        int pull(int b) {
            return pull(kind[b], load[b], bricks[b]);
        }

        static int pull(int kind, int load, int bricks) {
            int apart = load > bricks ? load - bricks : bricks - load;
            if (kind == 1) {
                return apart == 0 ? 0 : apart - 1;
            }
            return kind == 2 ? apart / 2 : apart;
        }

        int edge(int b, int h) {
            return h < drop[b] ? 0 : h - drop[b];
        }

        boolean isSeen(int b, int[] h) {
            if (edge(b, h[b]) >= trim) {
                return false;
            }
            for (int a = 0; a < b; a++) {
                if (edge(a, h[a]) <= edge(b, h[b])) {
                    return false;
                }
            }
            return true;
        }

        int seen(int[] h) {
            int set = 0;
            for (int b = 0; b < n; b++) {
                set += isSeen(b, h) ? 1 << b : 0;
            }
            return set;
        }

        int hider(int b) {
            for (int a = 0; a < b; a++) {
                if (edge(b, height[b]) < trim && edge(a, height[a]) <= edge(b, height[b])) {
                    return a;
                }
            }
            return NONE;
        }

        boolean canBe(int[] from, int[] to, int withHands) {
            int pulls = 0;
            for (int b = 0; b < n; b++) {
                pulls += from[b] == to[b] ? 0 : pull(b);
            }
            for (int b = 1; b < n; b++) {
                int was = Integer.signum(from[b] - from[b - 1]);
                int is = Integer.signum(to[b] - to[b - 1]);
                if (drop[b] > 0 && drop[b - 1] > 0 && was * is == -1) {
                    return false;
                }
            }
            return pulls <= withHands;
        }
    }

    private static Model draw(Random r) {
        Model m = new Model();
        m.hands = 1 + r.nextInt(6);
        m.trim = 1 + r.nextInt(9);
        m.stock = r.nextInt(10);
        m.n = 2 + r.nextInt(7);
        m.kind = r.ints(m.n, 0, 3).toArray();
        m.load = r.ints(m.n, 0, 10).toArray();
        m.bricks = r.ints(m.n, 0, 10).toArray();
        m.height = r.ints(m.n, 0, 10).toArray();
        m.drop = r.ints(m.n, 0, 4).toArray();
        boolean light = r.nextBoolean();
        for (int b = 0; b < m.n; b++) {
            if (light) {
                m.bricks[b] = Math.max(0, Math.min(9, m.load[b] + r.nextInt(5) - 2));
            }
            if (r.nextInt(3) == 0) {
                m.height[b] = r.nextBoolean() ? 0 : 9;
            }
        }
        return m;
    }

    private static String tell(Model m) {
        StringBuilder all = new StringBuilder("f").append(m.hands).append(m.trim).append(m.stock);
        for (int b = 0; b < m.n; b++) {
            all.append(';').append("law".charAt(m.kind[b])).append(m.load[b]).append(m.bricks[b]);
            all.append(m.height[b]).append(m.drop[b]);
        }
        return all.toString();
    }

    private static void put(FlyFloor x, int sheet, int[] cells) {
        x.sheet(sheet, 2, cells.length);
        for (int i = 0; i < cells.length; i++) {
            x.put(sheet, i, cells[i]);
        }
    }

    private static void ofEach(FlyFloor x, Model m) {
        due("seen()", x.seen(), m.seen(m.height));
        for (int b = 0; b < m.n; b++) {
            due("pull of " + b, x.ofBatten(b, 5), m.pull(b));
            due("edge of " + b, x.ofBatten(b, 6), m.edge(b, m.height[b]));
            due("hides(" + b + ")", x.hides(b), m.hider(b));
            int ways = 0;
            int all = 1 << m.n;
            for (int way = 0; way < all; way++) {
                int[] h = new int[m.n];
                for (int a = 0; a < m.n; a++) {
                    h[a] = (way >> a & 1) * 9;
                }
                ways += m.isSeen(b, h) ? 1 : 0;
            }
            int by = Integer.lowestOneBit(ways);
            due("odds(" + b + ", 0)", x.odds(b, 0), ways / by);
            due("odds(" + b + ", 1)", x.odds(b, 1), all / by);
        }
    }

    private static void balances(FlyFloor x, Model m, Random r) {
        int b = r.nextInt(m.n);
        int v = r.nextInt(4);
        int best = NONE;
        for (int far = 9; far >= 0; far--) {
            for (int bricks : new int[] {m.bricks[b] + far, m.bricks[b] - far}) {
                boolean there = bricks >= 0 && bricks <= 9 && far <= (bricks > m.bricks[b] ? m.stock : 9);
                if (there && Model.pull(m.kind[b], m.load[b], bricks) <= v) {
                    best = bricks;
                }
            }
        }
        due("balance(" + b + ", " + v + ")", x.balance(b, v), best);
    }

    /** Goes, EFFORT, HEIGHTS of the best of all 3 to the n ways; null: there is none. */
    private static int[] bestPicture(Model m, int set) {
        int[] best = null;
        int ways = (int) Math.round(Math.pow(3, m.n));
        for (int way = 0; way < ways; way++) {
            int[] h = m.height.clone();
            int[] row = new int[m.n + 2];
            boolean can = true;
            for (int b = 0, rest = way; b < m.n; b++, rest /= 3) {
                h[b] = rest % 3 == 0 ? h[b] : rest % 3 == 1 ? 0 : 9;
                if (h[b] != m.height[b]) {
                    can &= m.pull(b) <= m.hands;
                    row[0]++;
                    row[1] += m.pull(b) * Math.abs(h[b] - m.height[b]);
                }
                row[b + 2] = h[b];
            }
            if (can && m.seen(h) == set && (best == null || Arrays.compare(row, best) < 0)) {
                best = row;
            }
        }
        return best;
    }

    private static void pictures(FlyFloor x, Model m, Random r) {
        int set = r.nextInt(1 << m.n);
        if (r.nextInt(3) > 0) {
            int[] h = m.height.clone();
            for (int b = 0; b < m.n; b++) {
                h[b] = r.nextInt(3) == 0 ? h[b] : r.nextInt(3) == 0 ? 0 : 9;
            }
            set = m.seen(h);
        }
        int[] best = bestPicture(m, set);
        for (int k = -2; k < 8; k++) {
            due("picture(" + set + ", " + k + ")", x.picture(set, k), best == null || k >= m.n ? NONE : best[k + 2]);
        }
    }

    private static void acts(FlyFloor x, Model m, Random r) {
        int n = r.nextInt(r.nextBoolean() ? 4 : 21);
        int[] cells = new int[2 * n];
        for (int k = 0; k < n; k++) {
            cells[2 * k] = r.nextInt(m.n);
            cells[2 * k + 1] = r.nextInt(10);
        }
        put(x, 1, cells);
        int least = NONE;
        for (int hands = 6; hands >= 1; hands--) {
            least = told(m, cells, n, hands)[0] == NONE ? hands : least;
        }
        due("crew", x.crew(1, 2, 0, n), least);
        int[] all = told(m, cells, n, m.hands);
        due("act, 1", x.act(1, 2, 0, n, 1), all[0]);
        boolean right = all[0] == NONE;
        due("act, 0", x.act(1, 2, 0, n, 0), right ? all[1] : -100 - all[0]);
        due("act, 2", x.act(1, 2, 0, n, 2), right ? all[2] : -100 - all[0]);
        due("act, 3", x.act(1, 2, 0, n, 3), right ? m.seen(Arrays.copyOfRange(all, 3, 3 + m.n)) : -100 - all[0]);
        for (int b = 0; b < 8; b++) {
            int wanted = b < m.n ? all[3 + b] : NONE;
            due("act, " + (10 + b), x.act(1, 2, 0, n, 10 + b), right ? wanted : -100 - all[0]);
        }
    }

    /** FIRST WRONG, BEATS, EFFORT, HEIGHTS. */
    private static int[] told(Model m, int[] cells, int n, int hands) {
        int[] all = new int[3 + m.n];
        int[] h = m.height.clone();
        all[0] = NONE;
        for (int k = 0; k < n; k++) {
            int[] to = h.clone();
            to[cells[2 * k]] = cells[2 * k + 1];
            if (!m.canBe(h, to, hands)) {
                all[0] = k;
                return all;
            }
            int far = Math.abs(to[cells[2 * k]] - h[cells[2 * k]]);
            all[1] += far;
            all[2] += far * m.pull(cells[2 * k]);
            h = to;
        }
        System.arraycopy(h, 0, all, 3, m.n);
        return all;
    }

    /** The row of the fewest CUES, behind their number; null: there is none. */
    private static int[] bestSplit(Model m, int[] cells, int n) {
        for (int cues = 0; cues <= n; cues++) {
            int rows = (int) Math.round(Math.pow(cues, n));
            for (int code = 0; code < rows; code++) {
                int[] row = new int[n + 1];
                row[0] = cues;
                for (int k = n, rest = code; k >= 1; k--, rest /= cues) {
                    row[k] = rest % cues;
                }
                if (rowCanBe(m, cells, row)) {
                    return row;
                }
            }
        }
        return null;
    }

    private static boolean rowCanBe(Model m, int[] cells, int[] row) {
        int[] h = m.height.clone();
        for (int cue = 0; cue < row[0]; cue++) {
            int[] to = h.clone();
            for (int k = 1; k < row.length; k++) {
                if (row[k] == cue) {
                    to[cells[2 * k - 2]] = cells[2 * k - 1];
                }
            }
            if (!m.canBe(h, to, m.hands)) {
                return false;
            }
            h = to;
        }
        return true;
    }

    private static void splits(FlyFloor x, Model m, Random r) {
        int n = Math.min(m.n, r.nextInt(6));
        int[] cells = new int[2 * n];
        int first = r.nextInt(m.n);
        for (int k = 0; k < n; k++) {
            cells[2 * k] = (first + k) % m.n;
            cells[2 * k + 1] = r.nextInt(10);
        }
        for (int k = n - 1; k > 0; k--) {
            int j = r.nextInt(k + 1);
            for (int c = 0; c < 2; c++) {
                int one = cells[2 * k + c];
                cells[2 * k + c] = cells[2 * j + c];
                cells[2 * j + c] = one;
            }
        }
        put(x, 2, cells);
        int[] best = bestSplit(m, cells, n);
        for (int k = -1; k < 5; k++) {
            String call = "split of " + Arrays.toString(cells) + ", " + k;
            due(call, x.split(2, 2, 0, n, k), best == null || k >= n ? NONE : best[k + 1]);
        }
    }

    private static void readings(FlyFloor x, Model m, Random r) {
        int count = r.nextInt(4);
        int[][] all = new int[count][];
        for (int k = 0; k < count; k++) {
            int b = r.nextInt(m.n);
            int d = 1 + r.nextInt(9);
            int pull = r.nextInt(3) > 0 ? m.pull(b) : r.nextInt(10);
            all[k] = new int[] {b, d, pull * d};
            due("reading", x.reading(b, d, pull * d), k);
        }
        for (int b = 0; b < m.n; b++) {
            int loads = 0;
            int weights = 0;
            int kinds = 0;
            for (int v = 0; v < 10; v++) {
                loads += areSo(m, all, b, m.kind[b], v, m.bricks[b]) ? 1 << v : 0;
                weights += areSo(m, all, b, m.kind[b], m.load[b], v) ? 1 << v : 0;
                kinds += v < 3 && areSo(m, all, b, v, m.load[b], m.bricks[b]) ? 1 << v : 0;
            }
            due("loads(" + b + ")", x.loads(b), loads);
            due("weights(" + b + ")", x.weights(b), weights);
            due("kinds(" + b + ")", x.kinds(b), kinds);
        }
    }

    private static boolean areSo(Model m, int[][] all, int b, int kind, int load, int bricks) {
        for (int[] one : all) {
            int pull = one[0] == b ? Model.pull(kind, load, bricks) : m.pull(one[0]);
            if (pull * one[1] != one[2]) {
                return false;
            }
        }
        return true;
    }

    public static void main(String[] args) {
        Random r = new Random(20261118);
        FlyFloor x = new FlyFloor();
        for (int k = 0; k < LOFTS; k++) {
            Model m = draw(r);
            text = tell(m);
            // A second LOFT on an object, so that what the first has left in its rows would show.
            x = k % 2 == 0 ? new FlyFloor() : x;
            put(x, 0, text.chars().toArray());
            due("loft", x.loft(0, 2, 0, text.length()), m.n);
            ofEach(x, m);
            balances(x, m, r);
            pictures(x, m, r);
            acts(x, m, r);
            splits(x, m, r);
            readings(x, m, r);
        }
        System.out.println(wrong == 0 ? "all answers are as due" : wrong + " answers are not as due");
        if (wrong != 0) {
            System.exit(1);
        }
    }
}
