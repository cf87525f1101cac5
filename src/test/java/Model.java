import java.util.ArrayList;
import java.util.List;

/** The document once more, word by word and one step of the time after another, to compare with. */
final class Model {
    private enum Kind { CHARGE, FIRE, CUT, OPEN, CLOSE }

    private record Event(Kind kind, int cylinder, long time) { }

    private final int p;
    private final int k;
    private final int q;
    private final int d;
    private final int c;
    private final int[][][] charts = new int[2][8][8];
    private final List<List<Integer>> samples = List.of(new ArrayList<>(), new ArrayList<>());
    private final int[] counts = new int[2];
    private final int[] good = {512, 60};
    private final long[][] frames = new long[2][];
    private final List<Event> events = new ArrayList<>();
    private final boolean[] coil = new boolean[6];
    private final boolean[] injector = new boolean[6];
    private final List<Long> switchings = new ArrayList<>();
    private long time = 0;
    private int state = 0;
    private Long latest = null;
    private long unit = 0;
    private int tooth = -1;
    private int turn = -1;
    private boolean camSinceTurnBegan = false;
    private int sparks = 0;
    private int cuts = 0;
    private int ceased = 0;

    Model(int positions, int cylinders, int charge, int dwell) {
        p = positions < 12 ? 12 : positions > 60 ? 60 : positions;
        k = cylinders < 1 ? 1 : cylinders > 6 ? 6 : cylinders;
        q = charge < 1 ? 1 : charge > 8 ? 8 : charge;
        d = dwell < 1 ? 1 : dwell > 100000 ? 100000 : dwell;
        c = 128 * p;
    }

    int positions() {
        return p;
    }

    boolean set(int chart, int i, int j, int value) {
        if (chart != 0 && chart != 1 || i < 0 || i > 7 || j < 0 || j > 7) {
            return false;
        }
        if (value < 0 || value > (chart == 0 ? 2047 : 32000)) {
            return false;
        }
        charts[chart][i][j] = value;
        return true;
    }

    int look(int chart, int x, int y) {
        if (chart != 0 && chart != 1 || x < 0 || x > 1791 || y < 0 || y > 1791) {
            return -1;
        }
        int i = x / 256;
        long f = x - 256 * i;
        int j = y / 256;
        long g = y - 256 * j;
        int[][] v = charts[chart];
        return (int) ((v[i][j] * (256 - f) * (256 - g) + v[i + 1][j] * f * (256 - g) + v[i][j + 1] * (256 - f) * g
            + v[i + 1][j + 1] * f * g + 32768) / 65536);
    }

    boolean sample(int sensor, int s) {
        if (sensor != 0 && sensor != 1) {
            return false;
        }
        List<Integer> before = samples.get(sensor);
        boolean fails = s < 16 || s > 1007;
        if (!fails && !before.isEmpty()) {
            int last = before.get(before.size() - 1);
            fails = last >= 16 && last <= 1007 && (s - last > 256 || last - s > 256);
        }
        before.add(s);
        if (fails) {
            if (counts[sensor] < 6) {
                counts[sensor]++;
                if (counts[sensor] == 3 && frames[sensor] == null) {
                    frames[sensor] = new long[] {time, unit, value(0)};
                }
            }
        } else {
            good[sensor] = sensor == 0 ? s : heat(s);
            if (counts[sensor] > 0) {
                counts[sensor]--;
            }
        }
        return !fails;
    }

    private static int heat(int s) {
        int[] points = {140, 90, 60, 25, -40};
        int i = s / 256;
        int f = s - 256 * i;
        return points[i] + (int) Math.floor((points[i + 1] - points[i]) * f / 256.0);
    }

    int value(int sensor) {
        if (sensor != 0 && sensor != 1) {
            return 0;
        }
        return counts[sensor] >= 3 ? (sensor == 0 ? 400 : 80) : good[sensor];
    }

    int count(int sensor) {
        return sensor == 0 || sensor == 1 ? counts[sensor] : -1;
    }

    long frame(int sensor, int part) {
        if (sensor != 0 && sensor != 1 || part < 0 || part > 2 || frames[sensor] == null) {
            return -1;
        }
        return frames[sensor][part];
    }

    int clear() {
        int n = (frames[0] == null ? 0 : 1) + (frames[1] == null ? 0 : 1);
        frames[0] = null;
        frames[1] = null;
        return n;
    }

    int edge(int after) {
        return teeth(1, after);
    }

    int teeth(int n, int after) {
        if (n < 1 || n > 64 || after < 1 || after > 1000000) {
            return -1;
        }
        for (int i = 0; i < n; i++) {
            pass(after);
            anEdge();
        }
        return state;
    }

    boolean cam() {
        if (state == 3) {
            if (turn == 1) {
                turn = -1;
            } else {
                turn = 0;
                camSinceTurnBegan = true;
            }
        }
        return state == 3;
    }

    int rest(int n) {
        if (n < 0 || n > 10000000) {
            return -1;
        }
        int before = switchings.size();
        pass(n);
        return switchings.size() - before;
    }

    int state() {
        return state;
    }

    int tooth() {
        return state >= 2 ? tooth : -1;
    }

    int turn() {
        return state == 3 ? turn : -1;
    }

    long unit() {
        return unit;
    }

    long foretell(int angle) {
        if (turn() == -1 || angle < 0 || angle >= c) {
            return -1;
        }
        return latest + modC(angle - angleOfTooth()) * unit / 64;
    }

    long output(int n) {
        return n < 0 || n > 15 || n >= switchings.size() ? -1 : switchings.get(switchings.size() - 1 - n);
    }

    int tally(int n) {
        int[] all = {sparks, cuts, switchings.size(), ceased};
        return n < 0 || n > 3 ? -1 : all[n];
    }

    int waiting() {
        return events.size();
    }

    int running() {
        int sum = 0;
        for (int i = 0; i < 6; i++) {
            sum += (coil[i] ? 1 << i : 0) + (injector[i] ? 256 << i : 0);
        }
        return sum;
    }

    private long modC(long n) {
        return (n % c + c) % c;
    }

    private long angleOfTooth() {
        return (turn * p + tooth) * 64L;
    }

    /** Step by step; many steps at once only where nothing waits and nothing can stall. */
    private void pass(long n) {
        long end = time + n;
        while (time < end) {
            if (events.isEmpty()) {
                long next = unit > 0 ? latest + 5 * unit : end;
                time = Math.min(end, Math.max(time + 1, next));
            } else {
                time++;
            }
            fireDue();
            if (unit > 0 && time >= latest + 5 * unit) {
                become(0);
                latest = null;
            }
        }
    }

    private void become(int next) {
        boolean ceases = state == 3 && next != 3;
        state = next;
        if (next == 0) {
            unit = 0;
        }
        if (ceases) {
            ceased++;
            events.clear();
            for (int i = 0; i < k; i++) {
                switchCoil(i, false);
            }
            for (int i = 0; i < k; i++) {
                switchInjector(i, false);
            }
        }
    }

    private void switchCoil(int cylinder, boolean on) {
        if (coil[cylinder] != on) {
            coil[cylinder] = on;
            switchings.add(time * 32 + 2 * cylinder + (on ? 1 : 0));
        }
    }

    private void switchInjector(int cylinder, boolean on) {
        if (injector[cylinder] != on) {
            injector[cylinder] = on;
            switchings.add(time * 32 + 16 + 2 * cylinder + (on ? 1 : 0));
        }
    }

    private void anEdge() {
        if (latest == null) {
            latest = time;
            return;
        }
        long gone = time - latest;
        latest = time;
        if (state == 0) {
            unit = gone;
            become(1);
        } else if (gone >= 2 * unit) {
            longInterval(gone);
        } else if (2 * gone > unit) {
            plainInterval(gone);
        } else {
            become(0);
        }
        if (state == 3 && turn != -1) {
            planning();
            fireDue();
        }
    }

    private void plainInterval(long gone) {
        unit = gone;
        if (state >= 2) {
            if (tooth < p - 3) {
                tooth++;
            } else {
                become(1);
            }
        }
    }

    private void longInterval(long gone) {
        unit = gone / 3 < 1 ? 1 : gone / 3;
        if (state == 2 && tooth == p - 3) {
            turn = -1;
            become(3);
        } else if (state == 3 && tooth == p - 3) {
            if (turn == 0) {
                turn = camSinceTurnBegan ? 1 : -1;
            } else if (turn == 1) {
                turn = 0;
                camSinceTurnBegan = false;
            }
        } else {
            become(2);
        }
        tooth = 0;
    }

    private int present(int chart) {
        int x = unit == 0 ? 0 : (int) Math.min(200000 / unit, 1791);
        return look(chart, x, 7 * value(0) / 4);
    }

    private long amount() {
        int w = value(1) < 80 ? 80 - value(1) : 0;
        return (long) present(1) * (100 + w) / 100;
    }

    private void planning() {
        int a = present(0);
        boolean careful = frames[0] != null || frames[1] != null || value(1) > 110;
        boolean below = unit < (careful ? 200 : 100);
        for (int i = 0; i < k; i++) {
            long t = (long) i * c / k;
            if (!below) {
                planIfNear(Kind.CHARGE, i, t - a - 64L * q);
            }
            planIfNear(Kind.FIRE, i, t - a);
            if (!below) {
                planIfNear(Kind.OPEN, i, t + c / 2);
            }
        }
    }

    private void planIfNear(Kind kind, int cylinder, long angle) {
        long way = modC(angle - angleOfTooth());
        if (way < (tooth == p - 3 ? 192 : 64)) {
            plan(kind, cylinder, time + way * unit / 64);
        }
    }

    private void remove(Kind kind, int cylinder) {
        events.removeIf(e -> e.kind == kind && e.cylinder == cylinder);
    }

    /** The list is in the order of planning. */
    private void plan(Kind kind, int cylinder, long when) {
        remove(kind, cylinder);
        events.add(new Event(kind, cylinder, when));
    }

    private void fireDue() {
        while (true) {
            Event next = null;
            for (Event e : events) {
                if (e.time <= time && (next == null || e.time < next.time)) {
                    next = e;
                }
            }
            if (next == null) {
                return;
            }
            events.remove(next);
            fire(next.kind, next.cylinder);
        }
    }

    private void fire(Kind kind, int cylinder) {
        if (kind == Kind.CHARGE && !coil[cylinder]) {
            switchCoil(cylinder, true);
            plan(Kind.CUT, cylinder, time + d);
        } else if (kind == Kind.FIRE && coil[cylinder]) {
            switchCoil(cylinder, false);
            sparks++;
            remove(Kind.CUT, cylinder);
        } else if (kind == Kind.CUT) {
            switchCoil(cylinder, false);
            cuts++;
        } else if (kind == Kind.OPEN && !injector[cylinder] && amount() != 0) {
            switchInjector(cylinder, true);
            plan(Kind.CLOSE, cylinder, time + amount());
        } else if (kind == Kind.CLOSE) {
            switchInjector(cylinder, false);
        }
    }
}
