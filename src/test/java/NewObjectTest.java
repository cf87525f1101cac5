/** Promise 1: a new object, and how its four numbers are held within their bounds. */
public final class NewObjectTest {
    private static final Due due = new Due();

    public static void main(String[] args) {
        atFirst();
        positions();
        cylinders();
        charge();
        dwell();
        due.end();
    }

    private static void atFirst() {
        due.sentence("All coils are off, all injectors closed, no event waits, no code is stored");
        ToothWheelTimer x = new ToothWheelTimer(36, 6, 3, 2000);
        due.same("new state()", x.state(), ToothWheelTimer.LOST);
        due.same("new tooth()", x.tooth(), -1);
        due.same("new turn()", x.turn(), -1);
        due.same("new unit()", x.unit(), 0);
        due.same("new foretell(0)", x.foretell(0), -1);
        due.same("new waiting()", x.waiting(), 0);
        due.same("new running()", x.running(), 0);
        due.same("new output(0)", x.output(0), -1);
        due.same("new clear()", x.clear(), 0);
        due.same("new value(0)", x.value(0), 512);
        due.same("new value(1)", x.value(1), 60);
        for (int k = 0; k < 4; k++) {
            due.same("new tally(" + k + ")", x.tally(k), 0);
        }
        for (int sensor = 0; sensor < 2; sensor++) {
            due.same("new count(" + sensor + ")", x.count(sensor), 0);
            due.same("new frame(" + sensor + ", 0)", x.frame(sensor, 0), -1);
        }
        for (int chart = 0; chart < 2; chart++) {
            due.same("new look(" + chart + ")", x.look(chart, 900, 900), 0);
        }
    }

    /** C - 1 is the last angle that is foretold, and C is 128 for each position. */
    private static void positions() {
        due.sentence("P is positions, but at least 12 and at most 60");
        int[][] cases = {{Integer.MIN_VALUE, 12}, {0, 12}, {11, 12}, {12, 12}, {13, 13}, {59, 59}, {60, 60}, {61, 60},
            {Integer.MAX_VALUE, 60}};
        for (int[] c : cases) {
            ToothWheelTimer x = Engine.lockWithTurn(new ToothWheelTimer(c[0], 1, 1, 1), c[1], 64);
            String name = "positions " + c[0] + ": ";
            due.same(name + "turn()", x.turn(), 0);
            long start = 1 + (c[1] + 4) * 64L;
            due.same(name + "foretell(last)", x.foretell(128 * c[1] - 1), start + 128L * c[1] - 1);
            due.same(name + "foretell(last + 1)", x.foretell(128 * c[1]), -1);
        }
    }

    /** Every cylinder is fuelled once in a cycle, so that the openings count the cylinders. */
    private static void cylinders() {
        due.sentence("K is cylinders, but at least 1 and at most 6");
        int[][] cases = {{Integer.MIN_VALUE, 1}, {0, 1}, {1, 1}, {2, 2}, {5, 5}, {6, 6}, {7, 6}, {Integer.MAX_VALUE, 6}};
        for (int[] c : cases) {
            ToothWheelTimer x = new ToothWheelTimer(12, c[0], 1, 1);
            Engine.level(x, 1, 1);
            Engine.lockWithTurn(x, 12, 640);
            Engine.turnRound(x, 12, 640);
            int before = x.tally(2) - 2 * x.tally(1);
            Engine.turnRound(x, 12, 640);
            x.cam();
            Engine.turnRound(x, 12, 640);
            int switchings = x.tally(2) - 2 * x.tally(1) - before;
            due.same("cylinders " + c[0] + ": injector switchings", switchings / 2, c[1]);
        }
    }

    /** With one cylinder and no advance the coil goes on 64 * Q before the angle 0. */
    private static void charge() {
        due.sentence("Q is charge, but at least 1 and at most 8");
        int[][] cases = {{Integer.MIN_VALUE, 1}, {0, 1}, {1, 1}, {2, 2}, {7, 7}, {8, 8}, {9, 8}, {Integer.MAX_VALUE, 8}};
        for (int[] c : cases) {
            ToothWheelTimer x = Engine.lockWithTurn(new ToothWheelTimer(12, 1, c[0], 100000), 12, 640);
            Engine.turnRound(x, 12, 640);
            long end = x.foretell(0);
            Engine.turnRound(x, 12, 640);
            String name = "charge " + c[0] + ": ";
            due.same(name + "spark", x.output(0), Engine.switching(end, false, 0, false));
            due.same(name + "coil on", x.output(1), Engine.switching(end - 640L * c[1], false, 0, true));
            due.same(name + "sparks", x.tally(0), 1);
        }
    }

    /** A coil whose spark does not come is cut after D. */
    private static void dwell() {
        due.sentence("D is dwell, but at least 1 and at most 100000");
        int[][] cases = {{Integer.MIN_VALUE, 1}, {0, 1}, {1, 1}, {2, 2}, {99999, 99999}, {100000, 100000},
            {100001, 100000}, {Integer.MAX_VALUE, 100000}};
        for (int[] c : cases) {
            ToothWheelTimer x = new ToothWheelTimer(12, 1, 8, c[0]);
            Engine.lockWithTurn(x, 12, 64000);
            Engine.turnRound(x, 12, 64000);
            x.teeth(4, 64000);
            String name = "dwell " + c[0] + ": ";
            long on = x.foretell(16 * 64);
            x.rest(c[1] - 1);
            due.same(name + "coil on until", x.running(), 1);
            due.same(name + "rest(1)", x.rest(1), 1);
            due.same(name + "cut", x.output(0), Engine.switching(on + c[1], false, 0, false));
            due.same(name + "cuts", x.tally(1), 1);
            due.same(name + "sparks", x.tally(0), 0);
        }
    }
}
