/** "Promise 2" to "Promise 21": the numbers at their bounds and at the first beyond them. For promise 1: NewObjectTest. */
public final class PromiseBoundsTest {
    private static final int LEAST = Integer.MIN_VALUE;
    private static final int MOST = Integer.MAX_VALUE;
    private static final long START = Engine.START;
    private static final Due due = new Due();

    public static void main(String[] args) {
        setCharts();
        setPoints();
        setValues();
        lookCharts();
        lookPlaces();
        sampleSensors();
        sampleAnswers();
        valueSensors();
        countSensors();
        frameSensors();
        frameParts();
        frameWithoutCode();
        frameAfterTheSample();
        frameOfZero();
        clearNone();
        clearOne();
        clearBoth();
        edgeBounds();
        teethNumber();
        teethBounds();
        teethAreEdges();
        camAnswers();
        restBounds();
        restAnswers();
        restOfNothing();
        states();
        toothBounds();
        turnBounds();
        unitBounds();
        foretellAngles();
        foretellWithoutTurn();
        outputNumbers();
        outputsNotSoMany();
        outputBits();
        tallyNumbers();
        tallyOfEach();
        waitingBounds();
        runningBounds();
        due.end();
    }

    private static ToothWheelTimer fresh() {
        return new ToothWheelTimer(12, 1, 1, 1);
    }

    private static void setCharts() {
        due.sentence("set: false when there is no such chart");
        int[][] cases = {{LEAST, 0}, {-1, 0}, {0, 1}, {1, 1}, {2, 0}, {MOST, 0}};
        for (int[] c : cases) {
            ToothWheelTimer x = fresh();
            due.same("set(" + c[0] + ", 0, 0, 9)", x.set(c[0], 0, 0, 9) ? 1 : 0, c[1]);
            due.same("look(0, 0, 0)", x.look(0, 0, 0), c[0] == 0 ? 9 : 0);
            due.same("look(1, 0, 0)", x.look(1, 0, 0), c[0] == 1 ? 9 : 0);
        }
    }

    private static void setPoints() {
        due.sentence("set: false when there is no such point");
        int[][] cases = {{LEAST, 0}, {-1, 0}, {0, 1}, {7, 1}, {8, 0}, {MOST, 0}};
        for (int chart = 0; chart < 2; chart++) {
            for (int[] i : cases) {
                for (int[] j : cases) {
                    String call = "set(" + chart + ", " + i[0] + ", " + j[0] + ", 9)";
                    due.same(call, fresh().set(chart, i[0], j[0], 9) ? 1 : 0, i[1] * j[1]);
                }
            }
        }
        ToothWheelTimer x = fresh();
        x.set(1, 0, 8, 9);
        x.set(1, 8, 0, 9);
        x.set(1, 1, -1, 9);
        x.set(1, -1, 1, 9);
        for (int i = 0; i < 7; i++) {
            due.same("nothing in row " + i, x.look(1, 256 * i, 0) + x.look(1, 256 * i, 1536) + x.look(1, 256 * i, 1791), 0);
        }
    }

    private static void setValues() {
        due.sentence("set: value is not 0 .. 2047 (chart 0) or 0 .. 32000 (chart 1)");
        int[][] cases = {{0, LEAST, 0}, {0, -1, 0}, {0, 0, 1}, {0, 2047, 1}, {0, 2048, 0}, {0, 32000, 0}, {0, MOST, 0},
            {1, LEAST, 0}, {1, -1, 0}, {1, 0, 1}, {1, 2048, 1}, {1, 32000, 1}, {1, 32001, 0}, {1, MOST, 0}};
        for (int[] c : cases) {
            ToothWheelTimer x = fresh();
            x.set(c[0], 3, 5, 77);
            String call = "set(" + c[0] + ", 3, 5, " + c[1] + ")";
            due.same(call, x.set(c[0], 3, 5, c[1]) ? 1 : 0, c[2]);
            due.same("the value after " + call, x.look(c[0], 768, 1280), c[2] == 1 ? c[1] : 77);
        }
    }

    private static void lookCharts() {
        due.sentence("look: NONE when there is no such chart");
        int[][] cases = {{LEAST, -1}, {-1, -1}, {0, 5}, {1, 6}, {2, -1}, {MOST, -1}};
        ToothWheelTimer x = fresh();
        x.set(0, 0, 0, 5);
        x.set(1, 0, 0, 6);
        for (int[] c : cases) {
            due.same("look(" + c[0] + ", 0, 0)", x.look(c[0], 0, 0), c[1]);
        }
    }

    private static void lookPlaces() {
        due.sentence("look: NONE when x or y is not 0 .. 1791");
        int[][] cases = {{LEAST, 0}, {-1, 0}, {0, 1}, {1, 1}, {1790, 1}, {1791, 1}, {1792, 0}, {2047, 0}, {MOST, 0}};
        for (int chart = 0; chart < 2; chart++) {
            ToothWheelTimer x = fresh();
            Engine.level(x, chart, 7);
            for (int[] a : cases) {
                for (int[] b : cases) {
                    String call = "look(" + chart + ", " + a[0] + ", " + b[0] + ")";
                    due.same(call, x.look(chart, a[0], b[0]), a[1] * b[1] == 1 ? 7 : -1);
                }
            }
        }
    }

    private static final int[] NO_SENSORS = {LEAST, -1, 2, 3, MOST};

    private static void sampleSensors() {
        due.sentence("sample: whether there is such a sensor");
        for (int sensor : NO_SENSORS) {
            ToothWheelTimer x = fresh();
            due.no("sample(" + sensor + ", 500)", x.sample(sensor, 500));
            due.no("sample(" + sensor + ", 0)", x.sample(sensor, 0));
            due.same("counts", x.count(0) + x.count(1), 0);
            due.same("value(0)", x.value(0), 512);
            due.same("value(1)", x.value(1), 60);
        }
        due.yes("sample(0, 500)", fresh().sample(0, 500));
        due.yes("sample(1, 500)", fresh().sample(1, 500));
    }

    private static void sampleAnswers() {
        due.sentence("sample: and the sample does not fail");
        for (int sensor = 0; sensor < 2; sensor++) {
            ToothWheelTimer x = fresh();
            due.no("15", x.sample(sensor, 15));
            due.yes("16", x.sample(sensor, 16));
            due.no("1007 after 16", x.sample(sensor, 1007));
            due.no("1008", x.sample(sensor, 1008));
            due.yes("1007 after 1008", x.sample(sensor, 1007));
            Engine.fail(x, sensor, 6);
            due.yes("500 at the count 6", x.sample(sensor, 500));
        }
    }

    private static void valueSensors() {
        due.sentence("value: 0 when there is none such");
        ToothWheelTimer x = fresh();
        for (int sensor : NO_SENSORS) {
            due.same("value(" + sensor + ")", x.value(sensor), 0);
        }
        due.same("value(0)", x.value(0), 512);
        due.same("value(1)", x.value(1), 60);
    }

    private static void countSensors() {
        due.sentence("count: NONE when there is none such");
        ToothWheelTimer x = fresh();
        for (int sensor : NO_SENSORS) {
            due.same("count(" + sensor + ")", x.count(sensor), -1);
        }
        due.same("count(0)", x.count(0), 0);
        due.same("count(1)", x.count(1), 0);
    }

    private static ToothWheelTimer bothCoded() {
        ToothWheelTimer x = fresh();
        x.sample(0, 700);
        x.edge(100);
        x.edge(321);
        x.rest(9);
        Engine.fail(x, 1, 3);
        x.rest(1);
        Engine.fail(x, 0, 3);
        return x;
    }

    private static void frameSensors() {
        due.sentence("frame: NONE when there is no such sensor");
        ToothWheelTimer x = bothCoded();
        for (int sensor : NO_SENSORS) {
            for (int part = 0; part < 3; part++) {
                due.same("frame(" + sensor + ", " + part + ")", x.frame(sensor, part), -1);
            }
        }
    }

    private static void frameParts() {
        due.sentence("frame: NONE when there is no such part");
        ToothWheelTimer x = bothCoded();
        long[][] want = {{431, 321, 400}, {430, 321, 700}};
        for (int sensor = 0; sensor < 2; sensor++) {
            for (int part : new int[] {LEAST, -1, 3, 4, MOST}) {
                due.same("frame(" + sensor + ", " + part + ")", x.frame(sensor, part), -1);
            }
            for (int part = 0; part < 3; part++) {
                due.same("frame(" + sensor + ", " + part + ")", x.frame(sensor, part), want[sensor][part]);
            }
        }
    }

    private static void frameWithoutCode() {
        due.sentence("frame: NONE when no code is stored for the sensor");
        ToothWheelTimer x = fresh();
        Engine.fail(x, 1, 3);
        Engine.fail(x, 0, 2);
        for (int part = 0; part < 3; part++) {
            due.same("count 2: frame(0, " + part + ")", x.frame(0, part), -1);
        }
        x.clear();
        for (int part = 0; part < 3; part++) {
            due.same("cleared: frame(1, " + part + ")", x.frame(1, part), -1);
        }
    }

    private static void frameAfterTheSample() {
        due.sentence("frame: the value of sensor 0 (as it is after the sample)");
        ToothWheelTimer x = fresh();
        x.sample(0, 700);
        Engine.fail(x, 0, 3);
        due.same("the failing sample makes it 400", x.frame(0, 2), 400);
        ToothWheelTimer y = fresh();
        y.sample(0, 700);
        Engine.fail(y, 0, 2);
        Engine.fail(y, 1, 3);
        due.same("sensor 0 at count 2", y.frame(1, 2), 700);
        ToothWheelTimer z = fresh();
        Engine.fail(z, 0, 3);
        Engine.fail(z, 1, 3);
        due.same("sensor 0 at count 3", z.frame(1, 2), 400);
    }

    private static void frameOfZero() {
        due.sentence("frame: the time, the unit when it was stored: 0 at first, beyond an int later");
        ToothWheelTimer x = fresh();
        Engine.fail(x, 1, 3);
        due.same("time 0", x.frame(1, 0), 0);
        due.same("unit 0", x.frame(1, 1), 0);
        due.same("load before the first sample", x.frame(1, 2), 512);
        x.edge(1);
        for (int i = 0; i < 250; i++) {
            x.rest(10000000);
        }
        x.edge(1);
        Engine.fail(x, 0, 3);
        due.same("time", x.frame(0, 0), 2500000002L);
        due.same("unit", x.frame(0, 1), 2500000001L);
        due.same("the first frame stays", x.frame(1, 0), 0);
    }

    private static void clearNone() {
        due.sentence("clear: how many there were: none");
        ToothWheelTimer x = fresh();
        due.same("new", x.clear(), 0);
        Engine.fail(x, 0, 2);
        Engine.fail(x, 1, 2);
        due.same("counts of 2", x.clear(), 0);
    }

    private static void clearOne() {
        due.sentence("clear: how many there were: one");
        for (int sensor = 0; sensor < 2; sensor++) {
            ToothWheelTimer x = fresh();
            Engine.fail(x, sensor, 6);
            due.same("one", x.clear(), 1);
            due.same("then none", x.clear(), 0);
            due.same("the count stays", x.count(sensor), 6);
        }
    }

    private static void clearBoth() {
        due.sentence("clear: No code is stored any more (the counts stay)");
        ToothWheelTimer x = bothCoded();
        due.same("both", x.clear(), 2);
        due.same("frame(0, 0)", x.frame(0, 0), -1);
        due.same("frame(1, 0)", x.frame(1, 0), -1);
        due.same("count(0)", x.count(0), 3);
        due.same("count(1)", x.count(1), 3);
        due.same("value(0)", x.value(0), 400);
        due.same("value(1)", x.value(1), 80);
        due.same("then none", x.clear(), 0);
    }

    private static final int[] NO_EDGES = {LEAST, -1, 0, 1000001, MOST};

    private static void edgeBounds() {
        due.sentence("edge: NONE when after is not 1 .. 1000000");
        for (int after : NO_EDGES) {
            ToothWheelTimer x = fresh();
            due.same("edge(" + after + ")", x.edge(after), -1);
            x.edge(1);
            due.same("edge(" + after + ") again", x.edge(after), -1);
            due.same("the second edge", x.edge(50), 1);
            due.same("unit()", x.unit(), 50);
        }
        for (int after : new int[] {1, 1000000}) {
            ToothWheelTimer x = fresh();
            due.same("edge(" + after + ")", x.edge(after), 0);
            due.same("edge(" + after + ") again", x.edge(after), 1);
            due.same("unit()", x.unit(), after);
        }
    }

    private static void teethNumber() {
        due.sentence("teeth: NONE when n is not 1 .. 64");
        for (int n : new int[] {LEAST, -1, 0, 65, MOST}) {
            ToothWheelTimer x = fresh();
            x.edge(1);
            due.same("teeth(" + n + ", 100)", x.teeth(n, 100), -1);
            due.same("the next edge", x.edge(7), 1);
            due.same("unit()", x.unit(), 7);
        }
        ToothWheelTimer y = Engine.count(new ToothWheelTimer(60, 1, 1, 1), 100);
        due.same("teeth(1, 100)", y.teeth(1, 100), 2);
        due.same("tooth()", y.tooth(), 1);
        for (int n = 63; n <= 64; n++) {
            ToothWheelTimer z = fresh();
            due.same("teeth(" + n + ", 10)", z.teeth(n, 10), 1);
            Engine.fail(z, 0, 3);
            due.same("the time of so many", z.frame(0, 0), 10 * n);
        }
    }

    private static void teethBounds() {
        due.sentence("teeth: NONE when after is not 1 .. 1000000");
        for (int after : NO_EDGES) {
            ToothWheelTimer x = fresh();
            x.edge(1);
            due.same("teeth(1, " + after + ")", x.teeth(1, after), -1);
            due.same("teeth(64, " + after + ")", x.teeth(64, after), -1);
            due.same("teeth(0, " + after + ")", x.teeth(0, after), -1);
            due.same("the next edge", x.edge(7), 1);
            due.same("unit()", x.unit(), 7);
        }
        for (int after : new int[] {1, 1000000}) {
            ToothWheelTimer x = fresh();
            due.same("teeth(1, " + after + ")", x.teeth(1, after), 0);
            due.same("teeth(64, " + after + ")", x.teeth(64, after), 1);
            due.same("unit()", x.unit(), after);
            Engine.fail(x, 0, 3);
            due.same("the time", x.frame(0, 0), 65L * after);
        }
    }

    private static void teethAreEdges() {
        due.sentence("teeth: n edges, one after another, each as with edge(after)");
        ToothWheelTimer x = Engine.timer(6, 8, 3000, 70, 500);
        ToothWheelTimer y = Engine.timer(6, 8, 3000, 70, 500);
        Engine.lockWithTurn(x, 12, 640);
        Engine.lockWithTurn(y, 12, 640);
        for (int n = 1; n <= 10; n++) {
            int state = x.teeth(n, 640);
            int last = -1;
            for (int i = 0; i < n; i++) {
                last = y.edge(640);
            }
            due.same("teeth(" + n + ", 640)", state, last);
            due.same("tooth()", x.tooth(), y.tooth());
            due.same("tally(2)", x.tally(2), y.tally(2));
            due.same("output(0)", x.output(0), y.output(0));
            due.same("waiting()", x.waiting(), y.waiting());
        }
        due.same("beyond the gap", x.state(), 1);
    }

    private static void camAnswers() {
        due.sentence("cam: Answers whether it is LOCKED");
        ToothWheelTimer x = fresh();
        due.no("LOST", x.cam());
        x.edge(1);
        x.edge(100);
        due.no("SEEKING", x.cam());
        x.edge(300);
        due.no("COUNTING", x.cam());
        x.teeth(9, 100);
        x.edge(300);
        due.yes("LOCKED, turn not known", x.cam());
        due.yes("LOCKED, turn 0", x.cam());
        Engine.turnRound(x, 12, 100);
        due.yes("LOCKED, turn 1", x.cam());
        x.rest(499);
        due.yes("LOCKED just before stalling", x.cam());
        x.rest(1);
        due.no("stalled", x.cam());
    }

    private static void restBounds() {
        due.sentence("rest: NONE when n is not 0 .. 10000000");
        int[][] cases = {{LEAST, -1}, {-1, -1}, {0, 0}, {1, 0}, {10000000, 0}, {10000001, -1}, {MOST, -1}};
        for (int[] c : cases) {
            ToothWheelTimer x = fresh();
            due.same("rest(" + c[0] + ")", x.rest(c[0]), c[1]);
            Engine.fail(x, 0, 3);
            due.same("the time after rest(" + c[0] + ")", x.frame(0, 0), c[1] == 0 ? c[0] : 0);
        }
    }

    private static void restAnswers() {
        due.sentence("rest: how often coils and injectors were switched on or off in this call");
        // 1 for 1: OPEN 4 at 460, 12 after tooth 7, for 20
        ToothWheelTimer x = Engine.timer(5, 1, 100000, 0, 20);
        Engine.lockWithTurn(x, 12, 640);
        x.teeth(7, 640);
        int before = x.tally(2);
        due.same("rest(119)", x.rest(119), 0);
        due.same("rest(1)", x.rest(1), 1);
        due.same("rest(0)", x.rest(0), 0);
        due.same("rest(19)", x.rest(19), 0);
        due.same("rest(1) again", x.rest(1), 1);
        due.same("tally(2)", x.tally(2), before + 2);
        ToothWheelTimer y = Engine.timer(5, 1, 100000, 0, 20);
        Engine.lockWithTurn(y, 12, 640);
        y.teeth(7, 640);
        due.same("rest(140)", y.rest(140), 2);
    }

    private static void restOfNothing() {
        due.sentence("rest: how often ... in this call: what an edge switched is not among them");
        ToothWheelTimer x = Engine.timer(1, 1, 100000, 0, 1000);
        Engine.lockWithTurn(x, 12, 640);
        Engine.turnRound(x, 12, 640);
        due.same("opened by the edge", x.tally(2), 1);
        due.same("rest(0)", x.rest(0), 0);
        due.same("rest(999)", x.rest(999), 0);
    }

    private static void states() {
        due.sentence("state: The state");
        ToothWheelTimer x = fresh();
        due.same("new", x.state(), 0);
        x.edge(1);
        due.same("one edge", x.state(), 0);
        x.edge(100);
        due.same("two edges", x.state(), 1);
        x.edge(199);
        due.same("199 after 100", x.state(), 1);
        x.edge(398);
        due.same("398 after 199", x.state(), 2);
        x.teeth(9, 132);
        due.same("nine teeth", x.state(), 2);
        x.edge(264);
        due.same("the gap", x.state(), 3);
        x.edge(44);
        due.same("44 after 88", x.state(), 0);
    }

    private static void toothBounds() {
        due.sentence("tooth: NONE when it is neither COUNTING nor LOCKED");
        for (int p : new int[] {12, 60}) {
            ToothWheelTimer x = new ToothWheelTimer(p, 1, 1, 1);
            due.same("new", x.tooth(), -1);
            x.edge(1);
            due.same("LOST", x.tooth(), -1);
            x.edge(100);
            due.same("SEEKING", x.tooth(), -1);
            x.edge(300);
            due.same("COUNTING", x.tooth(), 0);
            x.teeth(p - 3, 100);
            due.same("COUNTING at the last", x.tooth(), p - 3);
            x.edge(300);
            due.same("LOCKED", x.tooth(), 0);
            x.teeth(p - 3, 100);
            due.same("LOCKED at the last", x.tooth(), p - 3);
            x.edge(100);
            due.same("SEEKING again", x.tooth(), -1);
            x.edge(300);
            x.edge(50);
            due.same("LOST again", x.tooth(), -1);
        }
    }

    private static void turnBounds() {
        due.sentence("turn: NONE when it is not LOCKED or the turn is not known");
        ToothWheelTimer x = fresh();
        due.same("new", x.turn(), -1);
        Engine.count(x, 100);
        due.same("COUNTING", x.turn(), -1);
        x.teeth(9, 100);
        x.edge(300);
        due.same("LOCKED, not known", x.turn(), -1);
        x.cam();
        due.same("0", x.turn(), 0);
        Engine.turnRound(x, 12, 100);
        due.same("1", x.turn(), 1);
        x.rest(499);
        due.same("1 just before stalling", x.turn(), 1);
        x.rest(1);
        due.same("stalled", x.turn(), -1);
    }

    private static void unitBounds() {
        due.sentence("unit: The unit: 0, 1, and beyond an int");
        ToothWheelTimer x = fresh();
        due.same("new", x.unit(), 0);
        x.teeth(2, 1);
        due.same("1", x.unit(), 1);
        x.edge(2);
        due.same("at least 1", x.unit(), 1);
        ToothWheelTimer y = fresh();
        y.edge(1);
        for (int i = 0; i < 220; i++) {
            y.rest(10000000);
        }
        y.edge(1000000);
        due.same("2201000000", y.unit(), 2201000000L);
        y.rest(10000000);
        due.same("far from stalling", y.state(), 1);
    }

    private static void foretellAngles() {
        due.sentence("foretell: NONE when angle is not 0 .. C - 1");
        for (int p : new int[] {12, 13, 60}) {
            ToothWheelTimer x = Engine.lockWithTurn(new ToothWheelTimer(p, 1, 1, 1), p, 64);
            long start = 1 + (p + 4) * 64L;
            int c = 128 * p;
            due.same("foretell(0)", x.foretell(0), start);
            due.same("foretell(C - 1)", x.foretell(c - 1), start + c - 1);
            for (int angle : new int[] {LEAST, -c, -1, c, c + 1, 2 * c, MOST}) {
                due.same("P = " + p + ": foretell(" + angle + ")", x.foretell(angle), -1);
            }
        }
    }

    private static void foretellWithoutTurn() {
        due.sentence("foretell: NONE when the turn is not known or it is not LOCKED");
        ToothWheelTimer x = fresh();
        due.same("LOST", x.foretell(0), -1);
        x.edge(1);
        x.edge(100);
        due.same("SEEKING", x.foretell(0), -1);
        x.edge(300);
        due.same("COUNTING", x.foretell(0), -1);
        x.teeth(9, 100);
        x.edge(300);
        due.same("turn not known", x.foretell(0), -1);
        x.cam();
        due.same("turn 0", x.foretell(0), 1601);
        x.rest(499);
        due.same("just before stalling", x.foretell(0), 1601);
        x.rest(1);
        due.same("stalled", x.foretell(0), -1);
    }

    private static final int[] NO_OUTPUTS = {LEAST, -1, 16, 17, MOST};

    private static void outputNumbers() {
        due.sentence("output: NONE when k is not 0 .. 15");
        ToothWheelTimer x = Engine.allOn();
        x.edge(320);
        due.yes("more than 16 switchings", x.tally(2) > 16);
        for (int k : NO_OUTPUTS) {
            due.same("output(" + k + ")", x.output(k), -1);
        }
        for (int k = 0; k < 16; k++) {
            due.yes("output(" + k + ")", x.output(k) > 0);
        }
        for (int k : NO_OUTPUTS) {
            due.same("new: output(" + k + ")", fresh().output(k), -1);
        }
    }

    /** Each cycle has 4 switchings: opened at half of it, closed 10 later, coil on 640 before its end, off then. */
    private static long nthSwitching(int n) {
        long cycle = START + n / 4 * 15360L;
        return switch (n % 4) {
            case 0 -> Engine.opened(cycle + 7680, 0);
            case 1 -> Engine.closed(cycle + 7690, 0);
            case 2 -> Engine.on(cycle + 14720, 0);
            default -> Engine.off(cycle + 15360, 0);
        };
    }

    private static void outputsNotSoMany() {
        due.sentence("output: NONE when there were not so many");
        ToothWheelTimer x = Engine.timer(1, 1, 100000, 0, 10);
        Engine.lockWithTurn(x, 12, 640);
        due.same("none yet", x.output(0), -1);
        int n = 0;
        for (int i = 0; i < 5; i++) {
            Engine.turnRound(x, 12, 640);
            outputsAfter(x, ++n);
            x.rest(10);
            outputsAfter(x, ++n);
            x.edge(630);
            x.teeth(8, 640);
            x.rest(1280);
            outputsAfter(x, ++n);
            x.edge(640);
            outputsAfter(x, ++n);
            x.cam();
        }
    }

    private static void outputsAfter(ToothWheelTimer x, int n) {
        String name = n + " switchings: ";
        due.same(name + "tally(2)", x.tally(2), n);
        due.same(name + "output(0)", x.output(0), nthSwitching(n - 1));
        if (n <= 16) {
            due.same(name + "the oldest", x.output(n - 1), nthSwitching(0));
            due.same(name + "one more", x.output(n), -1);
        } else {
            due.same(name + "output(15)", x.output(15), nthSwitching(n - 16));
            due.same(name + "output(16)", x.output(16), -1);
        }
    }

    private static void outputBits() {
        due.sentence("output: the time * 32 + 16 if it is an injector + 2 * cylinder + 1 if it was switched on or opened");
        ToothWheelTimer x = Engine.allOn();
        x.edge(320);
        long end = (START + 26560) * 32;
        due.same("injector 5 closed", x.output(0), end + 16 + 10);
        due.same("injector 0 closed", x.output(5), end + 16);
        due.same("coil 5 off", x.output(6), end + 10);
        due.same("coil 0 off", x.output(11), end);
        due.same("coil 0 on", x.output(12), (START + 26240) * 32 + 1);
        due.same("coil 5 on", x.output(13), (START + 15360 + 8960) * 32 + 10 + 1);
        ToothWheelTimer y = Engine.timer(6, 1, 100000, 100, 10);
        for (int i = 0; i < 20; i++) {
            y.rest(10000000);
        }
        Engine.lockWithTurn(y, 12, 640);
        y.teeth(8, 640);
        due.same("injector 5 opened, late", y.output(0), (200000000L + START + 5120) * 32 + 16 + 10 + 1);
    }

    private static final int[] NO_TALLIES = {LEAST, -1, 4, 5, MOST};

    private static void tallyNumbers() {
        due.sentence("tally: NONE for other k");
        ToothWheelTimer x = Engine.allOn();
        for (int k : NO_TALLIES) {
            due.same("tally(" + k + ")", x.tally(k), -1);
            due.same("new: tally(" + k + ")", fresh().tally(k), -1);
        }
        for (int k = 0; k < 4; k++) {
            due.same("new: tally(" + k + ")", fresh().tally(k), 0);
        }
    }

    private static void tallyOfEach() {
        due.sentence("tally: 0: sparks, 1: cuts, 2: switchings, 3: how often it ceased to be LOCKED");
        // coil 1 sparks after 640; no edge brings the FIRE of coil 0, which is cut after 1000
        ToothWheelTimer x = Engine.timer(2, 1, 1000, 0, 0);
        Engine.lockWithTurn(x, 12, 640);
        Engine.turnRound(x, 12, 640);
        due.tallies("spark", x, 1, 0, 2, 0);
        x.teeth(9, 640);
        x.rest(2279);
        due.tallies("just before the cut", x, 1, 0, 3, 0);
        x.rest(1);
        due.tallies("cut", x, 1, 1, 4, 0);
        x.rest(919);
        due.tallies("just before stalling", x, 1, 1, 4, 0);
        x.rest(1);
        due.tallies("stalled", x, 1, 1, 4, 1);
        x.rest(10000000);
        due.tallies("long stalled", x, 1, 1, 4, 1);
    }

    private static void waitingBounds() {
        due.sentence("waiting: How many events wait: none to many");
        due.same("new", fresh().waiting(), 0);
        ToothWheelTimer x = Engine.allOn();
        due.same("six CUT and six CLOSE", x.waiting(), 12);
        // with the advance 376 FIRE 0 is due at 1160, 8 after tooth 6, and nothing else is near it
        Engine.present(x, 0, 376);
        x.edge(640);
        due.same("and FIRE 0", x.waiting(), 13);
        x.rest(80);
        due.same("FIRE 0 has come, with its CUT", x.waiting(), 11);
        x.edge(200);
        due.same("LOST", x.waiting(), 0);
    }

    private static void runningBounds() {
        due.sentence("running: the sum of 1 << c for all coils that are on and 256 << c for all injectors that are open");
        due.same("new", fresh().running(), 0);
        ToothWheelTimer x = Engine.allOn();
        due.same("all", x.running(), 63 + 16128);
        x.edge(320);
        due.same("none", x.running(), 0);
        for (int c = 1; c < 6; c++) {
            ToothWheelTimer y = Engine.timer(6, 1, 100000, 0, 0);
            Engine.lockWithTurn(y, 12, 640);
            due.same("coil " + c, lastCoil(y, c), 1 << c);
        }
    }

    /** Coil c is on 64 before the angle 256 * c. */
    private static int lastCoil(ToothWheelTimer x, int c) {
        int tooth = 4 * c - 1;
        if (tooth < 10) {
            x.teeth(tooth, 640);
        } else if (tooth < 12) {
            x.teeth(9, 640);
            x.rest(640 * (tooth - 9));
        } else {
            Engine.turnRound(x, 12, 640);
            x.teeth(tooth - 12, 640);
        }
        return x.running();
    }
}
