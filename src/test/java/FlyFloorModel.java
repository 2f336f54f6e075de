import java.lang.reflect.InvocationTargetException;
import java.lang.reflect.Method;
import java.lang.reflect.Modifier;
import java.util.ArrayList;
import java.util.Arrays;
import java.util.Comparator;
import java.util.List;
import java.util.Random;
import java.util.stream.IntStream;

/**
 * Runs of 500 calls, with good, bad and odd numbers, on a FlyFloor and on a plain model that was
 * written anew from the document: SHEETS are real rows of bytes, shorts and ints, kinds are real
 * classes, what may be UNDONE are whole copies. Every answer is compared, and none may throw.
 */
public final class FlyFloorModel {
    private static final int UNKNOWN = -1, OUTSIDE = -2, STATE = -3, FULL = -4, NONE = -9;
    private static final int NULL = 1, CAST = 2, INDEX = 3, SIZE = 4;
    private static final long LOST = Long.MIN_VALUE;
    /** An object is used for at most 512 calls. */
    private static final int RUNS = 3000, CALLS = 500;
    private static final int[] ODD = {Integer.MIN_VALUE, Integer.MIN_VALUE + 1, -100, -10, -3, -2, -1, 0, 1, 2, 3, 4,
        5, 6, 7, 8, 9, 10, 17, 18, 20, 21, 59, 60, 61, 81, 82, 127, 128, 255, 256, 32768, 65536,
        Integer.MAX_VALUE - 1, Integer.MAX_VALUE};

    // ---- the model

    private interface Called {
        int number();

        void leave(int body);

        default int called() {
            leave(4);
            return number();
        }
    }

    private static class Line implements Called {
        final Model of;
        final int number;
        final int drop;

        Line(Model of, int number, int drop) {
            this.of = of;
            this.number = number;
            this.drop = drop;
        }

        public int number() {
            return number;
        }

        public void leave(int body) {
            of.trace = 31 * of.trace + body;
        }

        int told() {
            return byLine();
        }

        final int byLine() {
            leave(1);
            return of.now.load.get(number);
        }

        int pull(int apart) {
            return apart;
        }
    }

    private static class Arbor extends Line {
        Arbor(Model of, int number, int drop) {
            super(of, number, drop);
        }

        @Override
        int told() {
            leave(2);
            return super.told() + 100;
        }

        @Override
        int pull(int apart) {
            return Math.max(apart - 1, 0);
        }
    }

    private static final class Winch extends Arbor {
        Winch(Model of, int number, int drop) {
            super(of, number, drop);
        }

        @Override
        int told() {
            leave(3);
            int first = super.told();
            return first + byLine();
        }

        @Override
        public int called() {
            leave(5);
            return 40;
        }

        @Override
        int pull(int apart) {
            return apart / 2;
        }
    }

    private record Rig(List<Integer> load, List<Integer> bricks, List<Integer> height, int stock) {
    }

    private record Image(Rig rig, int hands, int trim) {
    }

    private record Reading(int b, int d, int v) {
    }

    /** A call that ends early, with what it answers. */
    private static final class Stop extends RuntimeException {
        private static final long serialVersionUID = 1;
        final int answer;

        Stop(int answer) {
            super(null, null, false, false);
            this.answer = answer;
        }
    }

    private static List<Integer> changed(List<Integer> row, int k, int v) {
        List<Integer> all = new ArrayList<>(row);
        all.set(k, v);
        return List.copyOf(all);
    }

    private static final class Model {
        final Object[] sheets = new Object[4];
        List<Line> battens = List.of();
        Rig now = new Rig(List.of(), List.of(), List.of(), 0);
        int hands, trim, trace, fault;
        final List<Rig> past = new ArrayList<>();
        final Image[] images = new Image[2];
        final List<Reading> readings = new ArrayList<>();

        // What is refused, each as a line that stops the call.

        void unless(boolean holds, int refusal) {
            if (!holds) {
                throw new Stop(refusal);
            }
        }

        void faultUnless(boolean holds, int which) {
            if (!holds) {
                fault = which;
                throw new Stop(-10 - which);
            }
        }

        void batten(int b) {
            unless(b >= 0 && b < battens.size(), UNKNOWN);
        }

        void sheetIs(int k) {
            unless(k == 0 || k == 1 || k == 2 || k == 3, UNKNOWN);
        }

        void among(int v, int... numbers) {
            unless(IntStream.of(numbers).anyMatch(n -> n == v), OUTSIDE);
        }

        void between(int v, int first, int last) {
            unless(v >= first && v <= last, OUTSIDE);
        }

        void loftIs() {
            unless(!battens.isEmpty(), STATE);
        }

        int laneOf(Object row) {
            return row instanceof byte[] ? 0 : row instanceof short[] ? 1 : 2;
        }

        int lengthOf(Object row) {
            return row instanceof byte[] bytes ? bytes.length
                : row instanceof short[] shorts ? shorts.length : ((int[]) row).length;
        }

        int get(Object row, int i) {
            return row instanceof byte[] bytes ? bytes[i] : row instanceof short[] shorts ? shorts[i] : ((int[]) row)[i];
        }

        void set(Object row, int i, int v) {
            if (row instanceof byte[] bytes) {
                bytes[i] = (byte) v;
            } else if (row instanceof short[] shorts) {
                shorts[i] = (short) v;
            } else {
                ((int[]) row)[i] = v;
            }
        }

        /** Cells i .. i + n - 1, where all of them are there. */
        int[] cells(int k, int lane, int i, long n) {
            Object row = sheets[k];
            faultUnless(row == null || laneOf(row) == lane, CAST);
            faultUnless(row != null, NULL);
            faultUnless(n >= 0, SIZE);
            faultUnless(i >= 0 && i <= lengthOf(row) && i + n <= lengthOf(row), INDEX);
            int[] all = new int[(int) n];
            for (int c = 0; c < n; c++) {
                all[c] = get(row, i + c);
            }
            return all;
        }

        int[] pairs(int sheet, int lane, int i, int n, boolean once) {
            int[] all = cells(sheet, lane, i, 2L * n);
            loftIs();
            for (int k = 0; k < n; k++) {
                batten(all[2 * k]);
                between(all[2 * k + 1], 0, 9);
            }
            for (int k = 0; k < n && once; k++) {
                for (int j = 0; j < k; j++) {
                    unless(all[2 * k] != all[2 * j], STATE);
                }
            }
            return all;
        }

        // What is told of a LOFT.

        int pull(int b) {
            return battens.get(b).pull(Math.abs(now.load.get(b) - now.bricks.get(b)));
        }

        int edge(int b, List<Integer> height) {
            return Math.max(0, height.get(b) - battens.get(b).drop);
        }

        boolean isSeen(int b, List<Integer> height) {
            int own = edge(b, height);
            return own < trim && IntStream.range(0, b).allMatch(a -> own < edge(a, height));
        }

        int seenSet(List<Integer> height) {
            return IntStream.range(0, battens.size()).filter(b -> isSeen(b, height)).map(b -> 1 << b).sum();
        }

        boolean canBe(List<Integer> from, List<Integer> to, int byHands) {
            int all = 0;
            for (int b = 0; b < battens.size(); b++) {
                all += from.get(b).equals(to.get(b)) ? 0 : pull(b);
            }
            for (int b = 0; b + 1 < battens.size(); b++) {
                boolean drops = battens.get(b).drop > 0 && battens.get(b + 1).drop > 0;
                int was = from.get(b).compareTo(from.get(b + 1));
                int is = to.get(b).compareTo(to.get(b + 1));
                if (drops && (was > 0 && is < 0 || was < 0 && is > 0)) {
                    return false;
                }
            }
            return all <= byHands;
        }

        void done(Rig next) {
            past.add(now);
            if (past.size() == 9) {
                past.remove(0);
            }
            now = next;
        }

        int doCue(int[] pairs) {
            List<Integer> to = now.height;
            int beats = 0;
            for (int k = 0; k < pairs.length; k += 2) {
                beats = Math.max(beats, Math.abs(now.height.get(pairs[k]) - pairs[k + 1]));
                to = changed(to, pairs[k], pairs[k + 1]);
            }
            unless(canBe(now.height, to, hands), STATE);
            done(new Rig(now.load, now.bricks, to, now.stock));
            return beats;
        }

        int runAway(int b) {
            if (now.bricks.get(b) <= now.load.get(b) + hands) {
                return 0;
            }
            now = new Rig(now.load, now.bricks, changed(now.height, b, 9), now.stock);
            return 1;
        }

        // The face.

        int loft(int sheet, int lane, int i, int n) {
            sheetIs(sheet);
            among(lane, 0, 1, 2);
            int[] codes = cells(sheet, lane, i, n);
            StringBuilder text = new StringBuilder();
            for (int code : codes) {
                text.append(code >= 0 && code < 256 ? (char) code : '?');
            }
            String batten = ";[law][0-9][0-9][0-9][0-3]";
            if (!text.toString().matches("f[1-6][1-9][0-9](" + batten + "){2,8}")) {
                throw new Stop(-100 - firstFault(text.toString()));
            }
            take(text.toString());
            return battens.size();
        }

        /** The longest beginning with which some TEXT of eight goes on. */
        int firstFault(String text) {
            String whole = "f110" + ";l0000".repeat(8);
            String form = "f[1-6][1-9][0-9](;[law][0-9][0-9][0-9][0-3]){8}";
            int place = 0;
            while (place < text.length() && place < whole.length()
                && (text.substring(0, place + 1) + whole.substring(place + 1)).matches(form)) {
                place++;
            }
            return place;
        }

        void take(String text) {
            String[] parts = text.split(";");
            List<Line> all = new ArrayList<>();
            List<List<Integer>> rows = List.of(new ArrayList<>(), new ArrayList<>(), new ArrayList<>());
            for (int b = 0; b + 1 < parts.length; b++) {
                String part = parts[b + 1];
                int drop = part.charAt(4) - '0';
                char kind = part.charAt(0);
                all.add(kind == 'l' ? new Line(this, b, drop) : kind == 'a' ? new Arbor(this, b, drop)
                    : new Winch(this, b, drop));
                for (int k = 0; k < 3; k++) {
                    rows.get(k).add(part.charAt(1 + k) - '0');
                }
            }
            battens = all;
            hands = parts[0].charAt(1) - '0';
            trim = parts[0].charAt(2) - '0';
            int stock = parts[0].charAt(3) - '0';
            now = new Rig(List.copyOf(rows.get(0)), List.copyOf(rows.get(1)), List.copyOf(rows.get(2)), stock);
            past.clear();
            readings.clear();
            Arrays.fill(images, null);
        }

        int kindOf(int b) {
            return battens.get(b) instanceof Winch ? 2 : battens.get(b) instanceof Arbor ? 1 : 0;
        }

        int ofBatten(int b, int what) {
            batten(b);
            between(what, 0, 6);
            return List.of(kindOf(b), now.load.get(b), now.bricks.get(b), now.height.get(b), battens.get(b).drop,
                pull(b), edge(b, now.height)).get(what);
        }

        int hides(int b) {
            batten(b);
            int own = edge(b, now.height);
            return IntStream.range(0, b).filter(a -> own < trim && edge(a, now.height) <= own).findFirst().orElse(NONE);
        }

        int hire(int v) {
            between(v, 1, 6);
            loftIs();
            int was = hands;
            hands = v;
            return was;
        }

        int trim(int v) {
            between(v, 1, 9);
            loftIs();
            int was = trim;
            trim = v;
            return was;
        }

        int fly(int b, int height) {
            batten(b);
            between(height, 0, 9);
            return doCue(new int[] {b, height});
        }

        int cue(int sheet, int lane, int i, int n) {
            sheetIs(sheet);
            among(lane, 0, 1, 2);
            between(n, 0, 8);
            return doCue(pairs(sheet, lane, i, n, true));
        }

        int hang(int b, int v) {
            batten(b);
            between(v, 0, 9);
            unless(now.height.get(b) == 0, STATE);
            done(new Rig(changed(now.load, b, v), now.bricks, now.height, now.stock));
            return runAway(b);
        }

        int brick(int b, int v) {
            batten(b);
            between(v, 0, 9);
            int stock = now.stock + now.bricks.get(b) - v;
            unless(now.height.get(b) == 0 && stock >= 0, STATE);
            done(new Rig(now.load, changed(now.bricks, b, v), now.height, stock));
            return runAway(b);
        }

        int undo() {
            unless(!past.isEmpty(), STATE);
            now = past.remove(past.size() - 1);
            return past.size();
        }

        int keep(int image) {
            unless(image == 0 || image == 1, UNKNOWN);
            loftIs();
            images[image] = new Image(now, hands, trim);
            return (images[0] == null ? 0 : 1) + (images[1] == null ? 0 : 1);
        }

        int restore(int image) {
            unless(image == 0 || image == 1, UNKNOWN);
            unless(images[image] != null, STATE);
            now = images[image].rig;
            hands = images[image].hands;
            trim = images[image].trim;
            past.clear();
            return now.stock;
        }

        /** HEIGHTS behind each CUE of an ACT, up to the FIRST WRONG. */
        List<List<Integer>> told(int[] pairs, int byHands) {
            List<List<Integer>> all = new ArrayList<>(List.of(now.height));
            for (int k = 0; k < pairs.length; k += 2) {
                List<Integer> from = all.get(all.size() - 1);
                List<Integer> to = changed(from, pairs[k], pairs[k + 1]);
                if (!canBe(from, to, byHands)) {
                    return all;
                }
                all.add(to);
            }
            return all;
        }

        int act(int sheet, int lane, int i, int n, int what) {
            sheetIs(sheet);
            among(lane, 0, 1, 2);
            between(n, 0, 20);
            among(what, 0, 1, 2, 3, 10, 11, 12, 13, 14, 15, 16, 17);
            int[] pairs = pairs(sheet, lane, i, n, false);
            List<List<Integer>> all = told(pairs, hands);
            int first = all.size() - 1;
            if (first < n) {
                return what == 1 ? first : -100 - first;
            }
            List<Integer> last = all.get(n);
            int beats = 0;
            int effort = 0;
            for (int k = 0; k < n; k++) {
                int b = pairs[2 * k];
                int far = Math.abs(all.get(k).get(b) - all.get(k + 1).get(b));
                beats += far;
                effort += far * pull(b);
            }
            return switch (what) {
                case 0 -> beats;
                case 1 -> NONE;
                case 2 -> effort;
                case 3 -> seenSet(last);
                default -> what - 10 < last.size() ? last.get(what - 10) : NONE;
            };
        }

        int picture(int set, int k) {
            loftIs();
            between(set, 0, (1 << battens.size()) - 1);
            between(k, -2, 7);
            List<Integer> best = bestPicture(set, 0, new ArrayList<>());
            return best == null || k >= battens.size() ? NONE : best.get(k + 2);
        }

        /** How many GO, EFFORT, HEIGHTS of the best row that goes on with these HEIGHTS. */
        List<Integer> bestPicture(int set, int b, List<Integer> height) {
            if (b == battens.size()) {
                return seenSet(height) == set ? costed(height) : null;
            }
            List<Integer> best = null;
            int own = now.height.get(b);
            for (int to : new int[] {own, 0, 9}) {
                if (to == own || pull(b) <= hands) {
                    height.add(to);
                    boolean asWanted = isSeen(b, height) == ((set >> b & 1) == 1);
                    List<Integer> row = asWanted ? bestPicture(set, b + 1, height) : null;
                    best = best == null || row != null && isLess(row, best) ? row : best;
                    height.remove(b);
                }
            }
            return best;
        }

        List<Integer> costed(List<Integer> height) {
            int goes = 0;
            int effort = 0;
            for (int b = 0; b < height.size(); b++) {
                int far = Math.abs(height.get(b) - now.height.get(b));
                goes += far > 0 ? 1 : 0;
                effort += far * pull(b);
            }
            List<Integer> all = new ArrayList<>(List.of(goes, effort));
            all.addAll(height);
            return all;
        }

        static boolean isLess(List<Integer> one, List<Integer> other) {
            for (int k = 0; k < one.size(); k++) {
                if (!one.get(k).equals(other.get(k))) {
                    return one.get(k) < other.get(k);
                }
            }
            return false;
        }

        int split(int sheet, int lane, int i, int n, int k) {
            sheetIs(sheet);
            among(lane, 0, 1, 2);
            between(n, 0, 5);
            between(k, -1, 4);
            int[] pairs = pairs(sheet, lane, i, n, true);
            for (int cues = 0; cues <= n; cues++) {
                List<Integer> row = firstSplit(pairs, cues, new ArrayList<>());
                if (row != null) {
                    return k == -1 ? cues : k < n ? row.get(k) : NONE;
                }
            }
            return NONE;
        }

        List<Integer> firstSplit(int[] pairs, int cues, List<Integer> row) {
            if (2 * row.size() == pairs.length) {
                return canAllBe(pairs, cues, row) ? List.copyOf(row) : null;
            }
            for (int cue = 0; cue < cues; cue++) {
                row.add(cue);
                List<Integer> whole = firstSplit(pairs, cues, row);
                row.remove(row.size() - 1);
                if (whole != null) {
                    return whole;
                }
            }
            return null;
        }

        boolean canAllBe(int[] pairs, int cues, List<Integer> row) {
            List<Integer> from = now.height;
            for (int cue = 0; cue < cues; cue++) {
                List<Integer> to = from;
                for (int k = 0; k < row.size(); k++) {
                    to = row.get(k) == cue ? changed(to, pairs[2 * k], pairs[2 * k + 1]) : to;
                }
                if (!canBe(from, to, hands)) {
                    return false;
                }
                from = to;
            }
            return true;
        }

        int crew(int sheet, int lane, int i, int n) {
            sheetIs(sheet);
            among(lane, 0, 1, 2);
            between(n, 0, 20);
            int[] pairs = pairs(sheet, lane, i, n, false);
            return IntStream.rangeClosed(1, 6).filter(h -> told(pairs, h).size() == n + 1).findFirst().orElse(NONE);
        }

        int balance(int b, int v) {
            batten(b);
            between(v, 0, 9);
            int own = now.bricks.get(b);
            return IntStream.rangeClosed(0, Math.min(9, own + now.stock))
                .filter(k -> battens.get(b).pull(Math.abs(now.load.get(b) - k)) <= v).boxed()
                .min(Comparator.comparing((Integer k) -> Math.abs(k - own)).thenComparing(k -> k)).orElse(NONE);
        }

        int reading(int b, int d, int v) {
            batten(b);
            between(d, 1, 9);
            between(v, 0, 81);
            unless(readings.size() < 8, FULL);
            readings.add(new Reading(b, d, v));
            return readings.size() - 1;
        }

        int back(int k) {
            between(k, 0, readings.size());
            for (int c = 0; c < k; c++) {
                readings.remove(readings.size() - 1);
            }
            return readings.size();
        }

        boolean areSo() {
            return readings.stream().allMatch(r -> pull(r.b) * r.d == r.v);
        }

        /** By which of so many things that are put in its place all READINGS are so. */
        int setOf(int count, java.util.function.IntConsumer put) {
            Rig before = now;
            List<Line> kinds = battens;
            int set = 0;
            for (int k = 0; k < count; k++) {
                put.accept(k);
                set |= areSo() ? 1 << k : 0;
                now = before;
                battens = kinds;
            }
            return set;
        }

        int loads(int b) {
            batten(b);
            return setOf(10, k -> now = new Rig(changed(now.load, b, k), now.bricks, now.height, now.stock));
        }

        int weights(int b) {
            batten(b);
            return setOf(10, k -> now = new Rig(now.load, changed(now.bricks, b, k), now.height, now.stock));
        }

        int kinds(int b) {
            batten(b);
            List<Line> as = List.of(new Line(this, b, 0), new Arbor(this, b, 0), new Winch(this, b, 0));
            return setOf(3, k -> {
                battens = new ArrayList<>(battens);
                battens.set(b, as.get(k));
            });
        }

        long odds(int b, int which) {
            batten(b);
            between(which, 0, 1);
            int ways = 1 << battens.size();
            int seen = 0;
            for (int way = 0; way < ways; way++) {
                int code = way;
                List<Integer> height = IntStream.range(0, battens.size()).mapToObj(a -> (code >> a & 1) * 9).toList();
                seen += isSeen(b, height) ? 1 : 0;
            }
            int by = Integer.lowestOneBit(seen);
            return which == 0 ? seen / by : ways / by;
        }

        int sheet(int k, int lane, int n) {
            sheetIs(k);
            among(lane, 0, 1, 2);
            between(n, Integer.MIN_VALUE, 60);
            faultUnless(n >= 0, SIZE);
            sheets[k] = lane == 0 ? new byte[n] : lane == 1 ? new short[n] : new int[n];
            return 1;
        }

        int lose(int k) {
            sheetIs(k);
            int had = sheets[k] == null ? 0 : 1;
            sheets[k] = null;
            return had;
        }

        int put(int k, int i, int v) {
            sheetIs(k);
            faultUnless(sheets[k] != null, NULL);
            faultUnless(i >= 0 && i < lengthOf(sheets[k]), INDEX);
            set(sheets[k], i, v);
            return 1;
        }

        long cell(int k, int i, int lane) {
            sheetIs(k);
            among(lane, 0, 1, 2);
            return cells(k, lane, i, 1)[0];
        }

        int copy(int k, int i, int other, int j, int n) {
            sheetIs(k);
            sheetIs(other);
            faultUnless(sheets[k] != null && sheets[other] != null, NULL);
            faultUnless(sheets[k].getClass() == sheets[other].getClass(), CAST);
            long from = lengthOf(sheets[k]) - (long) n;
            long to = lengthOf(sheets[other]) - (long) n;
            faultUnless(n >= 0 && i >= 0 && i <= from && j >= 0 && j <= to, INDEX);
            System.arraycopy(sheets[k], i, sheets[other], j, n);
            return n;
        }

        int as(int b, int kind) {
            batten(b);
            among(kind, 0, 1, 2);
            faultUnless(List.of(Line.class, Arbor.class, Winch.class).get(kind).isInstance(battens.get(b)), CAST);
            return 1;
        }

        int many(int what) {
            between(what, 0, 5);
            return List.of(battens.size(), hands, trim, now.stock, past.size(), readings.size()).get(what);
        }

        /** Whatever is called: its answer; a FAULT, a refusal of a call of a long is LOST. */
        long call(String name, int[] a) {
            if (List.of("loft", "cue", "act", "split", "crew", "sheet", "put", "cell", "copy", "as").contains(name)) {
                fault = 0;
            }
            try {
                return answer(name, a);
            } catch (Stop stop) {
                return name.equals("odds") || name.equals("cell") ? LOST : stop.answer;
            }
        }

        long answer(String name, int[] a) {
            return switch (name) {
                case "loft" -> loft(a[0], a[1], a[2], a[3]);
                case "ofBatten" -> ofBatten(a[0], a[1]);
                case "seen" -> seen();
                case "hides" -> hides(a[0]);
                case "hire" -> hire(a[0]);
                case "trim" -> trim(a[0]);
                case "fly" -> fly(a[0], a[1]);
                case "cue" -> cue(a[0], a[1], a[2], a[3]);
                case "hang" -> hang(a[0], a[1]);
                case "brick" -> brick(a[0], a[1]);
                case "undo" -> undo();
                case "keep" -> keep(a[0]);
                case "restore" -> restore(a[0]);
                case "act" -> act(a[0], a[1], a[2], a[3], a[4]);
                case "picture" -> picture(a[0], a[1]);
                case "split" -> split(a[0], a[1], a[2], a[3], a[4]);
                case "crew" -> crew(a[0], a[1], a[2], a[3]);
                case "balance" -> balance(a[0], a[1]);
                case "reading" -> reading(a[0], a[1], a[2]);
                case "back" -> back(a[0]);
                case "loads" -> loads(a[0]);
                case "weights" -> weights(a[0]);
                case "kinds" -> kinds(a[0]);
                case "odds" -> odds(a[0], a[1]);
                case "sheet" -> sheet(a[0], a[1], a[2]);
                case "lose" -> lose(a[0]);
                case "put" -> put(a[0], a[1], a[2]);
                case "cell" -> cell(a[0], a[1], a[2]);
                case "copy" -> copy(a[0], a[1], a[2], a[3], a[4]);
                case "as" -> as(a[0], a[1]);
                case "trace" -> trace;
                case "fault" -> fault;
                case "many" -> many(a[0]);
                default -> ofParts(name, a[0]);
            };
        }

        long seen() {
            loftIs();
            return seenSet(now.height);
        }

        long ofParts(String name, int b) {
            batten(b);
            return name.equals("tell") ? battens.get(b).told() : battens.get(b).called();
        }
    }

    // ---- the runs

    private static int wrong = 0;

    private static final class Run {
        final FlyFloor x = new FlyFloor();
        final Model m = new Model();
        final Method[] face;
        final Random r;
        final int number;
        int calls;

        Run(int number, Method[] face) {
            this.number = number;
            this.face = face;
            this.r = new Random(number);
        }

        void call(String name, int... a) throws IllegalAccessException {
            Method method = Arrays.stream(face).filter(f -> f.getName().equals(name)).findFirst().orElseThrow();
            Object[] boxed = Arrays.stream(a).boxed().toArray();
            if (calls >= CALLS) {
                return;
            }
            calls++;
            String got;
            try {
                got = "" + ((Number) method.invoke(x, boxed)).longValue();
            } catch (InvocationTargetException e) {
                got = "" + e.getCause();
            }
            String want = "" + m.call(name, a);
            if (!got.equals(want)) {
                wrong++;
                if (wrong < 40) {
                    System.out.println("run " + number + ", call " + calls + ": " + name + Arrays.toString(a)
                        + " answered " + got + ", due is " + want);
                }
            }
        }

        void write(int sheet, int lane, int... cells) throws IllegalAccessException {
            call("sheet", sheet, lane, cells.length);
            for (int i = 0; i < cells.length; i++) {
                call("put", sheet, i, cells[i]);
            }
        }

        void aText() throws IllegalAccessException {
            StringBuilder text = new StringBuilder("f").append(1 + r.nextInt(6)).append(1 + r.nextInt(9));
            text.append(r.nextInt(10));
            int n = 2 + r.nextInt(r.nextBoolean() ? 7 : 3);
            boolean light = r.nextInt(3) > 0;
            for (int b = 0; b < n; b++) {
                int load = r.nextInt(10);
                int bricks = light ? Math.max(0, Math.min(9, load + r.nextInt(5) - 2)) : r.nextInt(10);
                text.append(';').append("law".charAt(r.nextInt(3))).append(load).append(bricks);
                text.append(r.nextInt(3) == 0 ? r.nextInt(10) : r.nextBoolean() ? 0 : 9).append(r.nextInt(4));
            }
            if (r.nextInt(8) == 0) {
                text.setCharAt(r.nextInt(text.length()), ";law09:fx3".charAt(r.nextInt(10)));
            }
            int sheet = r.nextInt(4);
            int lane = r.nextInt(3);
            write(sheet, lane, text.chars().toArray());
            call("loft", sheet, lane, 0, text.length() - (r.nextInt(8) == 0 ? r.nextInt(8) : 0));
        }

        void aRow() throws IllegalAccessException {
            int n = r.nextInt(r.nextBoolean() ? 6 : 21);
            int[] cells = new int[2 * n + r.nextInt(2)];
            int most = Math.max(2, m.battens.size());
            int first = r.nextInt(most);
            boolean others = r.nextInt(3) == 0;
            for (int i = 0; i < cells.length; i++) {
                cells[i] = i % 2 == 1 ? r.nextInt(10) : others ? r.nextInt(most) : (first + i / 2 * 3) % most;
            }
            if (r.nextInt(5) == 0 && cells.length > 0) {
                cells[r.nextInt(cells.length)] = ODD[r.nextInt(ODD.length)];
            }
            int sheet = r.nextInt(4);
            int lane = r.nextInt(3);
            write(sheet, lane, cells);
            for (int k = 0; k < 6; k++) {
                int pairs = r.nextInt(3) == 0 ? r.nextInt(n + 1) : n;
                int i = r.nextInt(4) == 0 ? r.nextInt(4) : 0;
                switch (r.nextInt(4)) {
                    case 0 -> call("cue", sheet, lane, i, pairs);
                    case 1 -> call("act", sheet, lane, i, pairs, List.of(0, 1, 2, 3, 10, 11, 12, 17).get(r.nextInt(8)));
                    case 2 -> call("split", sheet, lane, i, Math.min(pairs, 5), r.nextInt(6) - 1);
                    default -> call("crew", sheet, lane, i, pairs);
                }
            }
        }

        int number(Method f, int k) {
            if (r.nextInt(10) == 0) {
                return ODD[r.nextInt(ODD.length)];
            }
            int most = switch (f.getName()) {
                case "cue", "act", "split", "crew" -> new int[] {3, 2, 3, 4, 5}[k];
                case "loft" -> new int[] {3, 2, 2, 60}[k];
                case "sheet" -> new int[] {3, 2, 60}[k];
                case "lose" -> 3;
                case "put" -> new int[] {3, 20, 300}[k];
                case "cell" -> new int[] {3, 20, 2}[k];
                case "copy" -> new int[] {3, 12, 3, 12, 12}[k];
                case "keep", "restore" -> 1;
                case "picture" -> new int[] {(1 << m.battens.size()) - 1, 7}[k];
                case "reading" -> new int[] {m.battens.size(), 9, 20}[k];
                case "odds" -> new int[] {m.battens.size(), 1}[k];
                case "as" -> new int[] {m.battens.size(), 2}[k];
                case "back" -> 2;
                default -> k == 0 ? Math.max(m.battens.size(), 6) : 9;
            };
            return r.nextInt(most + 1);
        }

        void any() throws IllegalAccessException {
            Method f = face[r.nextInt(face.length)];
            if (f.getName().matches("loft|lose|sheet") && r.nextInt(3) > 0) {
                return;
            }
            if (f.getName().equals("reading") && !m.battens.isEmpty() && r.nextBoolean()) {
                int b = r.nextInt(m.battens.size());
                int d = 1 + r.nextInt(9);
                call("reading", b, d, d * m.pull(b));
                return;
            }
            int[] a = new int[f.getParameterCount()];
            for (int k = 0; k < a.length; k++) {
                a[k] = number(f, k);
            }
            if (f.getName().equals("picture") && !m.battens.isEmpty() && r.nextBoolean()) {
                List<Integer> height = IntStream.range(0, m.battens.size()).mapToObj(b -> r.nextInt(2) * 9).toList();
                a[0] = m.seenSet(height);
            }
            call(f.getName(), a);
        }

        void go() throws IllegalAccessException {
            for (int k = 0; calls < CALLS && k < 10 * CALLS; k++) {
                int way = r.nextInt(60);
                if (way == 0 || way < 8 && m.battens.isEmpty()) {
                    aText();
                } else if (way < 4) {
                    aRow();
                } else {
                    any();
                    if (r.nextInt(4) == 0) {
                        call("fault");
                    }
                }
            }
        }
    }

    public static void main(String[] args) throws IllegalAccessException {
        Method[] face = Arrays.stream(FlyFloor.class.getDeclaredMethods())
            .filter(f -> Modifier.isPublic(f.getModifiers()))
            .sorted(Comparator.comparing(Method::getName)).toArray(Method[]::new);
        int calls = 0;
        for (int number = 1; number <= RUNS; number++) {
            Run run = new Run(number, face);
            run.go();
            calls += run.calls;
        }
        System.out.println(wrong == 0 ? calls + " answers are as due" : wrong + " answers are not as due");
        if (wrong != 0) {
            System.exit(1);
        }
    }
}
