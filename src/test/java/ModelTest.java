/** Many runs of mixed calls on the program and on the model, which must answer alike. */
public final class ModelTest {
    private static final int RUNS = 3000;
    private static final int[] WILD = {Integer.MIN_VALUE, -1, 0, 1, 7, 8, 11, 12, 60, 61, 100001, Integer.MAX_VALUE};
    private static final int[] UNITS = {1, 2, 3, 7, 64, 99, 100, 101, 150, 199, 200, 201, 256, 333, 640, 1000};
    private static final Due due = new Due();

    private final Dice dice;
    private final String name;
    private final ToothWheelTimer x;
    private final Model m;
    private int pace;
    private int calls = 0;

    /** The same throws in every run of the test. */
    private static final class Dice {
        private long seed;

        Dice(long seed) {
            this.seed = seed * 2654435761L + 12345;
        }

        int below(int n) {
            seed = seed * 6364136223846793005L + 1442695040888963407L;
            return (int) ((seed >>> 33) % n);
        }

        boolean oneIn(int n) {
            return below(n) == 0;
        }

        int from(int[] row) {
            return row[below(row.length)];
        }

        int between(int low, int high) {
            return low + below(high - low + 1);
        }
    }

    private ModelTest(int run) {
        dice = new Dice(run);
        int positions = dice.oneIn(10) ? dice.from(WILD) : dice.between(12, dice.oneIn(4) ? 60 : 16);
        int cylinders = dice.oneIn(10) ? dice.from(WILD) : dice.between(1, 6);
        int charge = dice.oneIn(10) ? dice.from(WILD) : dice.between(1, 8);
        int dwell = dice.oneIn(10) ? dice.from(WILD) : dice.between(1, dice.oneIn(2) ? 300 : 5000);
        pace = dice.from(UNITS);
        name = "run " + run + ", (" + positions + ", " + cylinders + ", " + charge + ", " + dwell + ")";
        x = new ToothWheelTimer(positions, cylinders, charge, dwell);
        m = new Model(positions, cylinders, charge, dwell);
    }

    public static void main(String[] args) {
        int[] reached = new int[4];
        int sparks = 0;
        int cuts = 0;
        int ceased = 0;
        for (int run = 0; run < RUNS && due.wrong() < 20; run++) {
            ModelTest test = new ModelTest(run);
            test.go();
            reached[test.m.state()]++;
            sparks += test.m.tally(0);
            cuts += test.m.tally(1);
            ceased += test.m.tally(3);
        }
        System.out.println("runs that ended LOST " + reached[0] + ", SEEKING " + reached[1] + ", COUNTING " + reached[2]
            + ", LOCKED " + reached[3] + "; sparks " + sparks + ", cuts " + cuts + ", ceased " + ceased);
        due.yes("runs reach what they are for", due.wrong() > 0 || reached[3] > RUNS / 10 && sparks > RUNS && cuts > RUNS
            && ceased > RUNS / 10);
        due.end();
    }

    private void go() {
        fillCharts();
        int wrong = due.wrong();
        while (calls < 480 && due.wrong() == wrong) {
            act();
            ask();
        }
    }

    private void same(String call, long got, long want) {
        calls++;
        due.same(name + ", call " + calls + ": " + call, got, want);
    }

    private void fillCharts() {
        int lead = dice.from(new int[] {0, 1, 63, 64, 65, 200, 700, 2047});
        int fuel = dice.from(new int[] {0, 1, 50, 300, 3000, 32000});
        boolean level = dice.oneIn(3);
        for (int n = 0; n < 64; n++) {
            set(0, n / 8, n % 8, level ? lead : dice.between(0, lead));
            set(1, n / 8, n % 8, level ? fuel : dice.between(0, fuel));
        }
    }

    private void set(int chart, int i, int j, int value) {
        same("set(" + chart + ", " + i + ", " + j + ", " + value + ")", x.set(chart, i, j, value) ? 1 : 0,
            m.set(chart, i, j, value) ? 1 : 0);
    }

    private void edge(int after) {
        same("edge(" + after + ")", x.edge(after), m.edge(after));
    }

    private void teeth(int n, int after) {
        same("teeth(" + n + ", " + after + ")", x.teeth(n, after), m.teeth(n, after));
    }

    private void rest(int n) {
        same("rest(" + n + ")", x.rest(n), m.rest(n));
    }

    private void cam() {
        same("cam()", x.cam() ? 1 : 0, m.cam() ? 1 : 0);
    }

    private void sample(int sensor, int s) {
        same("sample(" + sensor + ", " + s + ")", x.sample(sensor, s) ? 1 : 0, m.sample(sensor, s) ? 1 : 0);
    }

    private void act() {
        int kind = dice.below(100);
        if (kind < 70) {
            turnOn();
        } else if (kind < 78) {
            rest(dice.oneIn(20) ? dice.from(WILD) : dice.below(2 * pace));
        } else if (kind < 84) {
            sample(dice.oneIn(9) ? dice.between(-1, 2) : dice.below(2), dice.oneIn(4) ? dice.between(-5, 1030)
                : dice.between(14, 400));
        } else if (kind < 86) {
            same("clear()", x.clear(), m.clear());
        } else if (kind < 92) {
            set(dice.between(-1, 2), dice.between(-1, 8), dice.between(-1, 8), dice.between(-1, 2048));
        } else if (kind < 94) {
            pace = dice.from(UNITS);
        } else if (kind < 97) {
            disturb();
        } else {
            cam();
        }
    }

    /** What a wheel would do: teeth up to the gap, the gap, and the cam in turn 0. */
    private void turnOn() {
        int last = m.positions() - 3;
        int step = Math.max(1, pace + dice.between(-pace / 8, pace / 8));
        if (m.state() == 3 && m.turn() != 1 && dice.oneIn(3)) {
            cam();
        } else if (m.tooth() == last) {
            edge(3 * step);
        } else if (m.state() >= 2) {
            int n = last - m.tooth();
            teeth(dice.oneIn(2) ? n : dice.between(1, n), step);
        } else {
            edge(m.state() == 1 && dice.oneIn(2) ? 3 * step : step);
        }
    }

    private void disturb() {
        switch (dice.below(6)) {
            case 0 -> edge(Math.max(1, pace / 2));
            case 1 -> edge(5 * pace);
            case 2 -> edge(2 * pace);
            case 3 -> rest(5 * pace);
            case 4 -> teeth(dice.from(WILD), dice.oneIn(2) ? pace : dice.from(WILD));
            default -> edge(dice.from(WILD));
        }
    }

    private void ask() {
        for (int i = 0; i < 3; i++) {
            askOne(dice.below(14));
        }
    }

    private void askOne(int which) {
        int k = dice.between(-1, 4);
        switch (which) {
            case 0 -> same("state()", x.state(), m.state());
            case 1 -> same("tooth()", x.tooth(), m.tooth());
            case 2 -> same("turn()", x.turn(), m.turn());
            case 3 -> same("unit()", x.unit(), m.unit());
            case 4 -> askForetold(dice.between(-1, 128 * m.positions()));
            case 5 -> askOutput(dice.between(-1, 16));
            case 6 -> same("tally(" + k + ")", x.tally(k), m.tally(k));
            case 7 -> same("waiting()", x.waiting(), m.waiting());
            case 8 -> same("running()", x.running(), m.running());
            case 9 -> same("value(" + k + ")", x.value(k), m.value(k));
            case 10 -> same("count(" + k + ")", x.count(k), m.count(k));
            case 11 -> askFrame(dice.between(-1, 2), k);
            case 12 -> askLook(dice.between(-1, 2), dice.between(-1, 1792), dice.between(-1, 1792));
            default -> askOutput(0);
        }
    }

    private void askForetold(int angle) {
        same("foretell(" + angle + ")", x.foretell(angle), m.foretell(angle));
    }

    private void askOutput(int k) {
        same("output(" + k + ")", x.output(k), m.output(k));
    }

    private void askFrame(int sensor, int part) {
        same("frame(" + sensor + ", " + part + ")", x.frame(sensor, part), m.frame(sensor, part));
    }

    private void askLook(int chart, int a, int b) {
        same("look(" + chart + ", " + a + ", " + b + ")", x.look(chart, a, b), m.look(chart, a, b));
    }
}
