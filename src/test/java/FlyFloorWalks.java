import java.lang.reflect.InvocationTargetException;
import java.lang.reflect.Method;
import java.lang.reflect.Modifier;
import java.util.ArrayDeque;
import java.util.Arrays;
import java.util.Comparator;
import java.util.Deque;
import java.util.Random;
import java.util.Set;

/**
 * Walks of 400 calls with good and bad numbers: no call throws, one that answers less than 0
 * changes nothing, and what is undone or restored is as it was.
 */
public final class FlyFloorWalks {
    private static final int WALKS = 300, CALLS = 400;
    private static final int[] ODD = {Integer.MIN_VALUE, Integer.MIN_VALUE + 1, -100, -3, -2, -1, 10, 17, 20, 21,
        59, 60, 61, 255, Integer.MAX_VALUE - 1, Integer.MAX_VALUE};
    private static final Set<String> NAME_FAULTS = Set.of("loft", "cue", "act", "split", "crew", "sheet", "put",
        "cell", "copy", "as");
    private static final Set<String> MOVE = Set.of("fly", "cue", "hang", "brick");
    private static final Set<String> CHANGE = Set.of("loft", "hire", "trim", "fly", "cue", "hang", "brick", "undo",
        "keep", "restore", "reading", "back", "sheet", "lose", "put", "copy", "tell", "call");

    private static int wrong = 0;

    private static void require(boolean holds, String what) {
        if (!holds) {
            wrong++;
            if (wrong < 40) {
                System.out.println(what);
            }
        }
    }

    private static Method[] face() {
        Method[] all = Arrays.stream(FlyFloor.class.getDeclaredMethods())
            .filter(m -> Modifier.isPublic(m.getModifiers())).toArray(Method[]::new);
        Arrays.sort(all, Comparator.comparing(Method::getName));
        return all;
    }

    /** HEIGHTS, LOADS, BRICKS, STOCK; then HANDS, TRIM. */
    private static int[] rig(FlyFloor x) {
        int n = x.many(0);
        int[] all = new int[3 * n + 3];
        for (int b = 0; b < n; b++) {
            for (int what = 1; what <= 3; what++) {
                all[3 * b + what - 1] = x.ofBatten(b, what);
            }
        }
        for (int what = 1; what <= 3; what++) {
            all[3 * n + 3 - what] = x.many(what);
        }
        return all;
    }

    /** All that can be asked without changing fault(). */
    private static String picked(FlyFloor x) {
        StringBuilder all = new StringBuilder(Arrays.toString(rig(x)));
        for (int what = 0; what <= 5; what++) {
            all.append(' ').append(x.many(what));
        }
        for (int b = 0; b < x.many(0); b++) {
            all.append(' ').append(x.loads(b)).append(' ').append(x.kinds(b)).append(' ').append(x.ofBatten(b, 0));
        }
        return all.append(' ').append(x.trace()).toString();
    }

    private static int draw(Random r, int most) {
        return r.nextInt(12) == 0 ? ODD[r.nextInt(ODD.length)] : r.nextInt(most + 1);
    }

    private static void write(FlyFloor x, int sheet, String text, int lane) {
        x.sheet(sheet, lane, text.length());
        for (int i = 0; i < text.length(); i++) {
            x.put(sheet, i, text.charAt(i));
        }
    }

    private static String text(Random r) {
        StringBuilder all = new StringBuilder("f").append(1 + r.nextInt(6)).append(1 + r.nextInt(9));
        all.append(r.nextInt(10));
        int n = 2 + r.nextInt(7);
        for (int b = 0; b < n; b++) {
            all.append(';').append("law".charAt(r.nextInt(3))).append(r.nextInt(10)).append(r.nextInt(10));
            all.append(r.nextInt(3) == 0 ? r.nextInt(10) : 0).append(r.nextInt(4));
        }
        return all.toString();
    }

    private static final class Walk {
        final FlyFloor x = new FlyFloor();
        final Deque<int[]> past = new ArrayDeque<>();
        final int[][] images = new int[2][];
        final Random r;

        Walk(Random r) {
            this.r = r;
        }

        void prepare() {
            if (r.nextInt(4) == 0) {
                String text = text(r);
                int lane = r.nextInt(3);
                write(x, 0, text, lane);
                require(x.loft(0, lane, 0, text.length()) > 1, "not taken: " + text);
                past.clear();
                images[0] = null;
                images[1] = null;
            } else {
                int sheet = 1 + r.nextInt(3);
                int lane = r.nextInt(3);
                x.sheet(sheet, lane, 8 + r.nextInt(40));
                for (int i = 0; i < 48; i++) {
                    x.put(sheet, i, r.nextInt(i % 2 == 0 ? 5 : 10));
                }
            }
        }

        Object[] arguments(Method m) {
            int count = m.getParameterCount();
            Object[] all = new Object[count];
            int[] most = new int[count];
            Arrays.fill(most, 9);
            if (m.getName().matches("cue|act|split|crew|loft")) {
                most = new int[] {3, 2, 4, 4, 12};
            } else if (m.getName().matches("keep|restore")) {
                most[0] = 1;
            } else if (m.getName().matches("sheet")) {
                most = new int[] {3, 2, 60};
            } else if (m.getName().equals("copy")) {
                most = new int[] {3, 10, 3, 10, 10};
            } else if (count > 0) {
                most[0] = 5;
            }
            for (int k = 0; k < count; k++) {
                all[k] = draw(r, most[k]);
            }
            return all;
        }

        void step(Method m) throws IllegalAccessException {
            Object[] with = arguments(m);
            String call = m.getName() + Arrays.toString(with);
            String before = picked(x);
            int[] rig = rig(x);
            int faultBefore = x.fault();
            long answer;
            try {
                answer = ((Number) m.invoke(x, with)).longValue();
            } catch (InvocationTargetException e) {
                require(false, call + " threw " + e.getCause());
                return;
            }
            String name = m.getName();
            boolean pure = !CHANGE.contains(name);
            require(answer >= 0 && !pure || before.equals(picked(x)), call + " answered " + answer + " and changed");
            if (!NAME_FAULTS.contains(name)) {
                require(name.equals("fault") || x.fault() == faultBefore, call + " changed fault()");
            } else if (m.getReturnType() == int.class) {
                boolean is = answer <= -11 && answer >= -14;
                require(x.fault() == (is ? -10 - answer : 0), call + " answered " + answer + ", fault " + x.fault());
            }
            if (answer >= 0) {
                follow(name, with, rig, answer, call);
            }
        }

        void follow(String name, Object[] with, int[] rig, long answer, String call) {
            if (MOVE.contains(name)) {
                past.addLast(rig);
                if (past.size() > 8) {
                    past.removeFirst();
                }
            } else if (name.equals("undo")) {
                int[] was = past.removeLast();
                was[was.length - 1] = rig[rig.length - 1];
                was[was.length - 2] = rig[rig.length - 2];
                require(Arrays.equals(was, rig(x)) && answer == past.size(), "undo is not as it was");
            } else if (name.equals("keep")) {
                images[(Integer) with[0]] = rig;
                require(answer == (images[0] == null || images[1] == null ? 1 : 2), call + " answered " + answer);
            } else if (name.equals("restore")) {
                past.clear();
                require(Arrays.equals(images[(Integer) with[0]], rig(x)), call + " is not as it was");
            } else if (name.equals("loft")) {
                past.clear();
                images[0] = null;
                images[1] = null;
            }
            require(x.many(4) == past.size(), call + ": another past");
        }
    }

    public static void main(String[] args) throws IllegalAccessException {
        Random r = new Random(361);
        Method[] face = face();
        int done = 0;
        for (int w = 0; w < WALKS; w++) {
            Walk walk = new Walk(r);
            for (int k = 0; k < CALLS; k++) {
                if (r.nextInt(25) == 0) {
                    walk.prepare();
                }
                walk.step(face[r.nextInt(face.length)]);
                done++;
            }
        }
        System.out.println(wrong == 0 ? done + " calls went as they should" : wrong + " calls did not");
        if (wrong != 0) {
            System.exit(1);
        }
    }
}
