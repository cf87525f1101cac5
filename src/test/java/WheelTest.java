/** Promises 9 to 11 and 13 to 17: edge, teeth, cam, state, tooth, turn, unit and foretell; and stalling. */
public final class WheelTest {
    private static final int LOST = ToothWheelTimer.LOST;
    private static final int SEEKING = ToothWheelTimer.SEEKING;
    private static final int COUNTING = ToothWheelTimer.COUNTING;
    private static final int LOCKED = ToothWheelTimer.LOCKED;
    private static final Due due = new Due();

    public static void main(String[] args) {
        firstEdges();
        intervals();
        shortestUnits();
        counting();
        gapTooSoon();
        gapMissed();
        badInterval();
        turns();
        camWhenNotLocked();
        stalling();
        edgeAtStalling();
        lostWithEdgeDoesNotStall();
        foretelling();
        refusals();
        teethAreEdges();
        longTimes();
        due.end();
    }

    private static ToothWheelTimer fresh() {
        return new ToothWheelTimer(12, 1, 1, 1);
    }

    private static void where(String name, ToothWheelTimer x, int state, int tooth, int turn, long unit) {
        due.same(name + ": state()", x.state(), state);
        due.same(name + ": tooth()", x.tooth(), tooth);
        due.same(name + ": turn()", x.turn(), turn);
        due.same(name + ": unit()", x.unit(), unit);
    }

    private static void firstEdges() {
        ToothWheelTimer x = fresh();
        x.rest(50);
        due.same("first edge", x.edge(1000000), LOST);
        where("after the first", x, LOST, -1, -1, 0);
        due.same("second edge", x.edge(100), SEEKING);
        where("after the second", x, SEEKING, -1, -1, 100);
        ToothWheelTimer y = fresh();
        y.edge(1);
        y.rest(40);
        due.same("edge after a rest", y.edge(60), SEEKING);
        due.same("unit over a rest", y.unit(), 100);
    }

    private static ToothWheelTimer seeking(int unit) {
        ToothWheelTimer x = fresh();
        x.edge(1);
        x.edge(unit);
        return x;
    }

    /** d, then the state and the unit that are due after it with the unit 100 (or 101) when SEEKING. */
    private static void intervals() {
        int[][] even = {{1, LOST, 0}, {50, LOST, 0}, {51, SEEKING, 51}, {100, SEEKING, 100}, {199, SEEKING, 199},
            {200, COUNTING, 66}, {201, COUNTING, 67}, {499, COUNTING, 166}, {500, LOST, 0}};
        for (int[] c : even) {
            ToothWheelTimer x = seeking(100);
            due.same("100, then " + c[0], x.edge(c[0]), c[1]);
            due.same("unit 100, then " + c[0], x.unit(), c[2]);
        }
        int[][] odd = {{50, LOST, 0}, {51, SEEKING, 51}, {201, SEEKING, 201}, {202, COUNTING, 67}};
        for (int[] c : odd) {
            ToothWheelTimer x = seeking(101);
            due.same("101, then " + c[0], x.edge(c[0]), c[1]);
            due.same("unit 101, then " + c[0], x.unit(), c[2]);
        }
    }

    private static void shortestUnits() {
        ToothWheelTimer x = seeking(1);
        due.same("1, then 2", x.edge(2), COUNTING);
        due.same("unit is at least 1", x.unit(), 1);
        due.same("1, then 1", x.edge(1), COUNTING);
        due.same("tooth", x.tooth(), 1);
        due.same("1, then 4", x.edge(4), COUNTING);
        where("a gap again", x, COUNTING, 0, -1, 1);
        due.same("1, then 5", x.edge(5), LOST);
    }

    private static void counting() {
        ToothWheelTimer x = seeking(100);
        due.same("plain when SEEKING", x.edge(110), SEEKING);
        due.same("gap", x.edge(330), COUNTING);
        where("gap when SEEKING", x, COUNTING, 0, -1, 110);
        for (int tooth = 1; tooth <= 9; tooth++) {
            due.same("plain when COUNTING", x.edge(100 + tooth), COUNTING);
            where("COUNTING", x, COUNTING, tooth, -1, 100 + tooth);
        }
        due.same("gap at the last tooth", x.edge(300), LOCKED);
        where("gap at the last tooth", x, LOCKED, 0, -1, 100);
        for (int tooth = 1; tooth <= 9; tooth++) {
            due.same("plain when LOCKED", x.edge(100), LOCKED);
            where("LOCKED", x, LOCKED, tooth, -1, 100);
        }
        due.same("next gap", x.edge(300), LOCKED);
        where("turn is not known without the cam", x, LOCKED, 0, -1, 100);
        due.same("tally(3)", x.tally(3), 0);
        ToothWheelTimer y = Engine.lock(new ToothWheelTimer(60, 1, 1, 1), 60, 100);
        due.same("60 positions", y.state(), LOCKED);
        due.same("57 teeth", y.teeth(57, 100), LOCKED);
        due.same("tooth 57", y.tooth(), 57);
        due.same("58 teeth", y.edge(100), SEEKING);
    }

    private static void gapTooSoon() {
        ToothWheelTimer x = Engine.lockWithTurn(fresh(), 12, 100);
        x.teeth(8, 100);
        due.same("gap at tooth 8 when LOCKED", x.edge(300), COUNTING);
        where("gap too soon", x, COUNTING, 0, -1, 100);
        due.same("tally(3)", x.tally(3), 1);
        x.teeth(3, 100);
        due.same("gap at tooth 3 when COUNTING", x.edge(300), COUNTING);
        where("gap too soon again", x, COUNTING, 0, -1, 100);
        due.same("tally(3) counts LOCKED alone", x.tally(3), 1);
        x.teeth(9, 100);
        due.same("LOCKED again", x.edge(300), LOCKED);
        due.same("the turn is not known any more", x.turn(), -1);
    }

    private static void gapMissed() {
        ToothWheelTimer x = Engine.lockWithTurn(fresh(), 12, 100);
        x.teeth(9, 100);
        due.same("plain at the last tooth when LOCKED", x.edge(100), SEEKING);
        where("gap missed", x, SEEKING, -1, -1, 100);
        due.same("tally(3)", x.tally(3), 1);
        x.edge(300);
        x.teeth(9, 100);
        due.same("plain at the last tooth when COUNTING", x.edge(120), SEEKING);
        where("gap missed when COUNTING", x, SEEKING, -1, -1, 120);
        due.same("tally(3) counts LOCKED alone", x.tally(3), 1);
    }

    private static void badInterval() {
        ToothWheelTimer x = Engine.lockWithTurn(fresh(), 12, 100);
        x.teeth(4, 100);
        due.same("bad when LOCKED", x.edge(50), LOST);
        where("bad", x, LOST, -1, -1, 0);
        due.same("foretell when LOST", x.foretell(0), -1);
        due.same("tally(3)", x.tally(3), 1);
        due.same("the bad edge is the latest", x.edge(77), SEEKING);
        due.same("unit from the bad edge", x.unit(), 77);
        ToothWheelTimer y = seeking(100);
        y.edge(300);
        due.same("bad when COUNTING", y.edge(50), LOST);
        due.same("tally(3) when COUNTING", y.tally(3), 0);
    }

    private static void turns() {
        ToothWheelTimer x = Engine.lock(fresh(), 12, 100);
        x.teeth(5, 100);
        due.yes("cam in the midst of a turn", x.cam());
        due.same("turn 0", x.turn(), 0);
        due.yes("cam again", x.cam());
        due.same("turn 0 still", x.turn(), 0);
        x.teeth(4, 100);
        due.same("turn 0 at the last tooth", x.turn(), 0);
        x.edge(300);
        due.same("turn 1", x.turn(), 1);
        Engine.turnRound(x, 12, 100);
        due.same("turn 0 again", x.turn(), 0);
        x.teeth(9, 100);
        x.cam();
        x.edge(300);
        due.same("cam at the last tooth is in time", x.turn(), 1);
        Engine.turnRound(x, 12, 100);
        Engine.turnRound(x, 12, 100);
        due.same("no cam in turn 0", x.turn(), -1);
        due.same("LOCKED all the same", x.state(), LOCKED);
        Engine.turnRound(x, 12, 100);
        due.same("not known goes on", x.turn(), -1);
        x.cam();
        due.same("cam makes it 0", x.turn(), 0);
        Engine.turnRound(x, 12, 100);
        due.yes("cam in turn 1", x.cam());
        due.same("cam in turn 1", x.turn(), -1);
        due.yes("cam after that", x.cam());
        due.same("cam after that", x.turn(), 0);
        Engine.turnRound(x, 12, 100);
        due.same("turn 1 after that", x.turn(), 1);
        due.same("tally(3)", x.tally(3), 0);
    }

    private static void camWhenNotLocked() {
        ToothWheelTimer x = fresh();
        due.no("cam when LOST", x.cam());
        x.edge(1);
        due.no("cam when LOST with an edge", x.cam());
        x.edge(100);
        due.no("cam when SEEKING", x.cam());
        x.edge(300);
        due.no("cam when COUNTING", x.cam());
        x.teeth(9, 100);
        due.no("cam at the last tooth", x.cam());
        x.edge(300);
        where("no cam mattered", x, LOCKED, 0, -1, 100);
        Engine.turnRound(x, 12, 100);
        due.same("turn", x.turn(), -1);
    }

    private static void stalling() {
        ToothWheelTimer x = Engine.lockWithTurn(fresh(), 12, 100);
        due.same("rest before stalling", x.rest(499), 0);
        where("not yet", x, LOCKED, 0, 0, 100);
        due.same("tally(3) not yet", x.tally(3), 0);
        x.rest(0);
        due.same("state after rest(0)", x.state(), LOCKED);
        x.rest(1);
        where("stalled", x, LOST, -1, -1, 0);
        due.same("tally(3)", x.tally(3), 1);
        due.same("first edge after stalling", x.edge(3), LOST);
        due.same("second edge after stalling", x.edge(30), SEEKING);
        due.same("unit after stalling", x.unit(), 30);
        x.rest(149);
        due.same("SEEKING not yet stalled", x.state(), SEEKING);
        x.rest(1);
        due.same("SEEKING stalled", x.state(), LOST);
        due.same("tally(3) counts LOCKED alone", x.tally(3), 1);
        ToothWheelTimer y = seeking(100);
        y.edge(300);
        y.rest(500);
        where("COUNTING stalled", y, LOST, -1, -1, 0);
        due.same("tally(3)", y.tally(3), 0);
    }

    private static void edgeAtStalling() {
        ToothWheelTimer x = Engine.lockWithTurn(fresh(), 12, 100);
        x.teeth(9, 100);
        due.same("edge at 4.99 units", x.edge(499), LOCKED);
        due.same("unit", x.unit(), 166);
        x.teeth(9, 160);
        due.same("edge at 5 units", x.edge(800), LOST);
        due.same("tally(3)", x.tally(3), 1);
        due.same("that edge was the first", x.edge(70), SEEKING);
        due.same("unit from that edge", x.unit(), 70);
        due.same("edge far beyond stalling", x.edge(1000000), LOST);
        due.same("and that was the first", x.edge(71), SEEKING);
        due.same("unit", x.unit(), 71);
    }

    private static void lostWithEdgeDoesNotStall() {
        ToothWheelTimer x = fresh();
        x.edge(1);
        x.rest(10000000);
        x.rest(10000000);
        due.same("edge long after the first", x.edge(5), SEEKING);
        due.same("its unit", x.unit(), 20000005);
    }

    private static void foretelling() {
        ToothWheelTimer x = Engine.lock(fresh(), 12, 100);
        due.same("turn not known", x.foretell(0), -1);
        x.cam();
        long start = 1 + 16 * 100;
        due.same("foretell(0)", x.foretell(0), start);
        due.same("foretell(1)", x.foretell(1), start + 1);
        due.same("foretell(16)", x.foretell(16), start + 25);
        due.same("foretell(1535)", x.foretell(1535), start + 2398);
        due.same("foretell(1536)", x.foretell(1536), -1);
        due.same("foretell(-1)", x.foretell(-1), -1);
        due.same("foretell(least)", x.foretell(Integer.MIN_VALUE), -1);
        due.same("foretell(most)", x.foretell(Integer.MAX_VALUE), -1);
        x.rest(70);
        due.same("a rest changes nothing", x.foretell(64), start + 100);
        x.edge(60);
        due.same("tooth 1, unit 130: foretell(64)", x.foretell(64), start + 130);
        due.same("tooth 1, unit 130: foretell(65)", x.foretell(65), start + 132);
        due.same("tooth 1, unit 130: foretell(63)", x.foretell(63), start + 130 + 1535 * 130 / 64);
        x.teeth(8, 100);
        x.edge(300);
        long second = start + 130 + 800 + 300;
        due.same("turn 1: foretell(768)", x.foretell(768), second);
        due.same("turn 1: foretell(0)", x.foretell(0), second + 1200);
        due.same("turn 1: foretell(767)", x.foretell(767), second + 1535 * 100 / 64);
        x.cam();
        due.same("turn not known any more", x.foretell(0), -1);
    }

    private static void refusals() {
        ToothWheelTimer x = Engine.lockWithTurn(fresh(), 12, 100);
        x.edge(100);
        int[] wrong = {0, -1, 1000001, Integer.MIN_VALUE, Integer.MAX_VALUE};
        for (int after : wrong) {
            due.same("edge(" + after + ")", x.edge(after), -1);
            due.same("teeth(1, " + after + ")", x.teeth(1, after), -1);
        }
        int[] many = {0, -1, 65, Integer.MIN_VALUE, Integer.MAX_VALUE};
        for (int n : many) {
            due.same("teeth(" + n + ", 100)", x.teeth(n, 100), -1);
        }
        where("after refusals", x, LOCKED, 1, 0, 100);
        due.same("edge after refusals", x.edge(100), LOCKED);
        due.same("the time did not go on", x.foretell(128), 1 + 18 * 100);
        ToothWheelTimer y = seeking(1000000);
        due.same("edge(1000000)", y.edge(1000000), SEEKING);
        due.same("teeth(64, 1000000)", y.teeth(64, 1000000), SEEKING);
        due.same("unit", y.unit(), 1000000);
    }

    private static void teethAreEdges() {
        ToothWheelTimer x = Engine.lockWithTurn(fresh(), 12, 100);
        due.same("past the gap", x.teeth(64, 100), SEEKING);
        where("past the gap", x, SEEKING, -1, -1, 100);
        ToothWheelTimer y = fresh();
        due.same("two edges", y.teeth(2, 300), SEEKING);
        due.same("each stalls anew", seeking(10).teeth(3, 50), SEEKING);
        ToothWheelTimer z = seeking(10);
        due.same("one edge after stalling", z.teeth(1, 50), LOST);
        due.same("unit after stalling", z.unit(), 0);
        due.same("a long one is followed by plain ones", seeking(10).teeth(2, 30), COUNTING);
    }

    private static void longTimes() {
        ToothWheelTimer x = fresh();
        x.edge(1);
        for (int i = 0; i < 300; i++) {
            x.rest(10000000);
        }
        due.same("edge after 3000000000", x.edge(1000000), SEEKING);
        due.same("unit beyond an int", x.unit(), 3001000000L);
        x.sample(0, 0);
        x.sample(0, 0);
        x.sample(0, 0);
        due.same("time beyond an int", x.frame(0, 0), 3001000001L);
        due.same("unit in the frame", x.frame(0, 1), 3001000000L);
    }
}
