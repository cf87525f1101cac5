/**
 * Controls sparks and fuel of an engine from the edges of a toothed wheel: it finds out where the wheel
 * stands, foretells when an angle will be reached, plans what is to be switched at which time, and keeps
 * an account of sensors that fail.
 */
public final class ToothWheelTimer {
    public static final int NONE = -1;
    public static final int LOST = 0;
    public static final int SEEKING = 1;
    public static final int COUNTING = 2;
    public static final int LOCKED = 3;

    private static final int MOST_TEETH = 64;
    private static final int LONGEST_EDGE = 1000000;
    private static final int LONGEST_REST = 10000000;

    /** Angle steps from one position of the wheel to the next. */
    private static final int STEPS = 64;

    private static final int LIMIT = 100;
    private static final int CAREFUL_LIMIT = 200;
    private static final int HOT = 110;
    private static final int WARM = 80;

    /** No event that fires leads to more than one other, and that one to none: 60 would do. */
    private static final int MOST_FIRINGS = 1000;

    private static final int[] LOAD_CURVE = {0, 256, 512, 768, 1024};
    private static final int[] HEAT_CURVE = {140, 90, 60, 25, -40};

    private final int cylinders;
    private final int chargeSteps;
    private final int longestDwell;
    private final Wheel wheel;
    private final Agenda agenda;
    private final Panel panel = new Panel();
    private final Chart advance = new Chart(2047);
    private final Chart fuel = new Chart(32000);
    private final Sensor load = new Sensor(LOAD_CURVE, 512, 400);
    private final Sensor heat = new Sensor(HEAT_CURVE, 60, 80);
    private long now = 0;
    private int sparks = 0;
    private int cuts = 0;
    private int unlockings = 0;

    public ToothWheelTimer(int positions, int cylinders, int charge, int dwell) {
        this.cylinders = within(cylinders, 1, 6);
        chargeSteps = STEPS * within(charge, 1, 8);
        longestDwell = within(dwell, 1, 100000);
        wheel = new Wheel(within(positions, 12, 60));
        agenda = new Agenda(this.cylinders);
    }

    public boolean set(int chart, int i, int j, int value) {
        Chart known = chartOf(chart);
        return known != null && known.put(i, j, value);
    }

    public int look(int chart, int x, int y) {
        Chart known = chartOf(chart);
        return known == null ? NONE : known.at(x, y);
    }

    public boolean sample(int sensor, int s) {
        Sensor known = sensorOf(sensor);
        if (known == null) {
            return false;
        }
        boolean sound = known.take(s);
        if (!sound && known.wantsCode()) {
            known.storeCode(now, wheel.pace, load.reading());
        }
        return sound;
    }

    public int value(int sensor) {
        Sensor known = sensorOf(sensor);
        return known == null ? 0 : known.reading();
    }

    public int count(int sensor) {
        Sensor known = sensorOf(sensor);
        return known == null ? NONE : known.faults;
    }

    public long frame(int sensor, int part) {
        Sensor known = sensorOf(sensor);
        return known == null ? NONE : known.codePart(part);
    }

    public int clear() {
        return load.dropCode() + heat.dropCode();
    }

    public int edge(int after) {
        if (!canFollow(after)) {
            return NONE;
        }
        meetEdge(after);
        return wheel.phase;
    }

    public int teeth(int n, int after) {
        if (n < 1 || n > MOST_TEETH || !canFollow(after)) {
            return NONE;
        }
        for (int i = 0; i < n; i++) {
            meetEdge(after);
        }
        return wheel.phase;
    }

    public boolean cam() {
        wheel.meetCam();
        return wheel.phase == LOCKED;
    }

    public int rest(int n) {
        if (n < 0 || n > LONGEST_REST) {
            return NONE;
        }
        int before = panel.changes;
        goOnTo(now + n);
        return panel.changes - before;
    }

    public int state() {
        return wheel.phase;
    }

    public int tooth() {
        return wheel.notch;
    }

    public int turn() {
        return wheel.round;
    }

    public long unit() {
        return wheel.pace;
    }

    public long foretell(int angle) {
        if (wheel.round == NONE || angle < 0 || angle >= wheel.cycle) {
            return NONE;
        }
        return wheel.latest + wheel.timeOver(wheel.stepsTo(angle));
    }

    public long output(int k) {
        return panel.logged(k);
    }

    public int tally(int k) {
        switch (k) {
            case 0:
                return sparks;
            case 1:
                return cuts;
            case 2:
                return panel.changes;
            case 3:
                return unlockings;
            default:
                return NONE;
        }
    }

    public int waiting() {
        return agenda.size;
    }

    public int running() {
        return panel.lit;
    }

    private static int within(int number, int least, int most) {
        return Math.max(least, Math.min(most, number));
    }

    private Chart chartOf(int number) {
        return number == 0 ? advance : number == 1 ? fuel : null;
    }

    private Sensor sensorOf(int number) {
        return number == 0 ? load : number == 1 ? heat : null;
    }

    private static boolean canFollow(int after) {
        return after >= 1 && after <= LONGEST_EDGE;
    }

    private void meetEdge(int after) {
        goOnTo(now + after);
        boolean wasLocked = wheel.phase == LOCKED;
        wheel.meetTooth(now);
        if (wasLocked && wheel.phase != LOCKED) {
            shutDown();
        }
        if (wheel.round != NONE) {
            planAll();
            goOnTo(now);
        }
    }

    /** Events at the time of stalling still fire; after it none is left that could. */
    private void goOnTo(long end) {
        boolean stalls = wheel.stallsBy(end);
        long last = stalls ? wheel.stallTime() : end;
        for (int i = 0; i < MOST_FIRINGS; i++) {
            int place = agenda.firstUntil(last);
            if (place == NONE) {
                break;
            }
            fireAt(place);
        }
        if (stalls) {
            now = last;
            stall();
        }
        now = end;
    }

    private void stall() {
        boolean wasLocked = wheel.phase == LOCKED;
        wheel.stand();
        if (wasLocked) {
            shutDown();
        }
    }

    private void shutDown() {
        unlockings++;
        agenda.removeAll();
        panel.switchAllOff(now);
    }

    private void fireAt(int place) {
        now = agenda.times[place];
        int kind = agenda.kindOf(place);
        int cylinder = agenda.cylinderOf(place);
        agenda.remove(kind, cylinder);
        switch (kind) {
            case Agenda.CHARGE:
                chargeCoil(cylinder);
                break;
            case Agenda.FIRE:
                fireCoil(cylinder);
                break;
            case Agenda.CUT:
                panel.switchTo(Panel.COIL + cylinder, false, now);
                cuts++;
                break;
            case Agenda.OPEN:
                openInjector(cylinder);
                break;
            default:
                panel.switchTo(Panel.INJECTOR + cylinder, false, now);
                break;
        }
    }

    private void chargeCoil(int cylinder) {
        if (!panel.isOn(Panel.COIL + cylinder)) {
            panel.switchTo(Panel.COIL + cylinder, true, now);
            agenda.plan(Agenda.CUT, cylinder, now + longestDwell);
        }
    }

    private void fireCoil(int cylinder) {
        if (panel.isOn(Panel.COIL + cylinder)) {
            panel.switchTo(Panel.COIL + cylinder, false, now);
            sparks++;
            agenda.remove(Agenda.CUT, cylinder);
        }
    }

    private void openInjector(int cylinder) {
        int amount = enriched(present(fuel));
        if (!panel.isOn(Panel.INJECTOR + cylinder) && amount != 0) {
            panel.switchTo(Panel.INJECTOR + cylinder, true, now);
            agenda.plan(Agenda.CLOSE, cylinder, now + amount);
        }
    }

    private int enriched(int plain) {
        int warmth = heat.reading();
        int extra = warmth < WARM ? WARM - warmth : 0;
        return plain * (100 + extra) / 100;
    }

    private int present(Chart chart) {
        return chart.at(wheel.speed(), 7 * load.reading() / 4);
    }

    private void planAll() {
        int lead = present(advance);
        boolean slowEnough = wheel.pace >= paceLimit();
        for (int c = 0; c < cylinders; c++) {
            int top = c * wheel.cycle / cylinders;
            if (slowEnough) {
                planNear(Agenda.CHARGE, c, top - lead - chargeSteps);
            }
            planNear(Agenda.FIRE, c, top - lead);
            if (slowEnough) {
                planNear(Agenda.OPEN, c, top + wheel.cycle / 2);
            }
        }
    }

    private int paceLimit() {
        boolean careful = load.coded || heat.coded || heat.reading() > HOT;
        return careful ? CAREFUL_LIMIT : LIMIT;
    }

    private void planNear(int kind, int cylinder, int angle) {
        int steps = wheel.stepsTo(angle);
        if (steps < wheel.stepsToNextTooth()) {
            agenda.plan(kind, cylinder, now + wheel.timeOver(steps));
        }
    }

    /** Where the wheel stands. The notch and the round are NONE in every phase that has none. */
    private static final class Wheel {
        private static final int STALL_UNITS = 5;
        private static final int FASTEST = 200000;

        private final int lastNotch;
        private final int positions;
        private final int cycle;
        private int phase = LOST;
        private boolean edgeKnown = false;
        private long latest = 0;
        private long pace = 0;
        private int notch = NONE;
        private int round = NONE;
        private boolean camCame = false;

        private Wheel(int positions) {
            this.positions = positions;
            lastNotch = positions - 3;
            cycle = 2 * positions * STEPS;
        }

        private void meetTooth(long time) {
            if (edgeKnown) {
                measure(time - latest);
            }
            edgeKnown = true;
            latest = time;
        }

        private void measure(long gone) {
            if (phase == LOST) {
                pace = gone;
                phase = SEEKING;
            } else if (gone >= 2 * pace) {
                passGap(gone);
            } else if (2 * gone > pace) {
                passPlain(gone);
            } else {
                lose();
            }
        }

        private void passGap(long gone) {
            pace = Math.max(1, gone / 3);
            boolean wholeTurn = notch == lastNotch;
            round = wholeTurn ? roundAfterGap() : NONE;
            phase = wholeTurn ? LOCKED : COUNTING;
            notch = 0;
            camCame = false;
        }

        private int roundAfterGap() {
            if (round == NONE || round == 0 && !camCame) {
                return NONE;
            }
            return 1 - round;
        }

        private void passPlain(long gone) {
            pace = gone;
            if (phase == SEEKING) {
                return;
            }
            if (notch < lastNotch) {
                notch++;
            } else {
                phase = SEEKING;
                notch = NONE;
                round = NONE;
            }
        }

        private void lose() {
            phase = LOST;
            pace = 0;
            notch = NONE;
            round = NONE;
        }

        private void meetCam() {
            if (phase == LOCKED) {
                round = round == 1 ? NONE : 0;
                camCame = true;
            }
        }

        private long stallTime() {
            return latest + STALL_UNITS * pace;
        }

        private boolean stallsBy(long time) {
            return pace > 0 && stallTime() <= time;
        }

        private void stand() {
            lose();
            edgeKnown = false;
        }

        private int stepsTo(int angle) {
            int here = (round * positions + notch) * STEPS;
            return Math.floorMod(angle - here, cycle);
        }

        private int stepsToNextTooth() {
            return notch == lastNotch ? 3 * STEPS : STEPS;
        }

        private long timeOver(int steps) {
            return steps * pace / STEPS;
        }

        private int speed() {
            if (pace <= 0) {
                return 0;
            }
            long speed = FASTEST / pace;
            return speed < Chart.END ? (int) speed : Chart.END;
        }
    }

    /** Values at the points of a square, and between them by their nearness. */
    private static final class Chart {
        private static final int SIDE = 8;
        private static final int STEP = 256;
        private static final int END = 1791;

        private final int most;
        private final int[] points = new int[SIDE * SIDE];

        private Chart(int most) {
            this.most = most;
        }

        private boolean put(int i, int j, int number) {
            if (i < 0 || i >= SIDE || j < 0 || j >= SIDE || number < 0 || number > most) {
                return false;
            }
            points[i * SIDE + j] = number;
            return true;
        }

        private int at(int x, int y) {
            if (x < 0 || x > END || y < 0 || y > END) {
                return NONE;
            }
            int corner = x / STEP * SIDE + y / STEP;
            long f = x % STEP;
            long g = y % STEP;
            long near = points[corner] * (STEP - g) + points[corner + 1] * g;
            long far = points[corner + SIDE] * (STEP - g) + points[corner + SIDE + 1] * g;
            return (int) ((near * (STEP - f) + far * f + STEP * STEP / 2) / (STEP * STEP));
        }
    }

    private static final class Sensor {
        private static final int LOWEST = 16;
        private static final int HIGHEST = 1007;
        private static final int LEAP = 256;
        private static final int STEP = 256;
        private static final int FAILED = 3;
        private static final int MOST_FAULTS = 6;
        private static final int PARTS = 3;

        private final int[] curve;
        private final int substitute;
        private final long[] code = new long[PARTS];
        private int good;
        private int previous = NONE;
        private int faults = 0;
        private boolean coded = false;

        private Sensor(int[] curve, int first, int substitute) {
            this.curve = curve;
            this.substitute = substitute;
            good = first;
        }

        private boolean take(int s) {
            boolean sound = inRange(s) && !(inRange(previous) && Math.abs(s - previous) > LEAP);
            if (sound) {
                faults = Math.max(0, faults - 1);
                good = onCurve(s);
            } else {
                faults = Math.min(MOST_FAULTS, faults + 1);
            }
            previous = s;
            return sound;
        }

        private static boolean inRange(int s) {
            return s >= LOWEST && s <= HIGHEST;
        }

        private int onCurve(int s) {
            int i = s / STEP;
            return curve[i] + Math.floorDiv((curve[i + 1] - curve[i]) * (s % STEP), STEP);
        }

        private int reading() {
            return faults >= FAILED ? substitute : good;
        }

        private boolean wantsCode() {
            return faults == FAILED && !coded;
        }

        private void storeCode(long time, long pace, int loadReading) {
            coded = true;
            code[0] = time;
            code[1] = pace;
            code[2] = loadReading;
        }

        private long codePart(int part) {
            return coded && part >= 0 && part < PARTS ? code[part] : NONE;
        }

        private int dropCode() {
            int dropped = coded ? 1 : 0;
            coded = false;
            return dropped;
        }
    }

    /** The events that wait: one place for each kind and cylinder, as an event takes the place of its like. */
    private static final class Agenda {
        private static final int CHARGE = 0;
        private static final int FIRE = 1;
        private static final int CUT = 2;
        private static final int OPEN = 3;
        private static final int CLOSE = 4;
        private static final int KINDS = 5;

        private final int cylinders;
        private final boolean[] taken;
        private final long[] times;
        private final int[] ranks;
        private int nextRank = 0;
        private int size = 0;

        private Agenda(int cylinders) {
            this.cylinders = cylinders;
            taken = new boolean[KINDS * cylinders];
            times = new long[KINDS * cylinders];
            ranks = new int[KINDS * cylinders];
        }

        private int placeOf(int kind, int cylinder) {
            return kind * cylinders + cylinder;
        }

        private int kindOf(int place) {
            return place / cylinders;
        }

        private int cylinderOf(int place) {
            return place % cylinders;
        }

        private void plan(int kind, int cylinder, long time) {
            int place = placeOf(kind, cylinder);
            if (!taken[place]) {
                taken[place] = true;
                size++;
            }
            times[place] = time;
            ranks[place] = nextRank;
            nextRank++;
        }

        private void remove(int kind, int cylinder) {
            int place = placeOf(kind, cylinder);
            if (taken[place]) {
                taken[place] = false;
                size--;
            }
        }

        private void removeAll() {
            for (int place = 0; place < taken.length; place++) {
                taken[place] = false;
            }
            size = 0;
        }

        private int firstUntil(long end) {
            int first = NONE;
            for (int place = 0; size > 0 && place < taken.length; place++) {
                if (taken[place] && times[place] <= end && (first == NONE || isBefore(place, first))) {
                    first = place;
                }
            }
            return first;
        }

        private boolean isBefore(int place, int other) {
            return times[place] < times[other] || times[place] == times[other] && ranks[place] < ranks[other];
        }
    }

    /** What is switched. The lines are numbered so that they fit the bits of lit and of the log as they are. */
    private static final class Panel {
        private static final int COIL = 0;
        private static final int INJECTOR = 8;
        private static final int LINES = 16;
        private static final int KEPT = 16;

        private final long[] log = new long[KEPT];
        private int lit = 0;
        private int changes = 0;

        private boolean isOn(int line) {
            return (lit & (1 << line)) != 0;
        }

        private void switchTo(int line, boolean on, long time) {
            lit = on ? lit | 1 << line : lit & ~(1 << line);
            log[changes & (KEPT - 1)] = time * 32 + 2 * line + (on ? 1 : 0);
            changes++;
        }

        private void switchAllOff(long time) {
            for (int line = 0; line < LINES; line++) {
                if (isOn(line)) {
                    switchTo(line, false, time);
                }
            }
        }

        private long logged(int k) {
            return k < 0 || k >= KEPT || k >= changes ? NONE : log[(changes - 1 - k) & (KEPT - 1)];
        }
    }
}
