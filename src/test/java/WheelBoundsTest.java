/** The sentences under "THE WHEEL" and "WHERE IT STANDS" that name a bound: at it and at the first number beyond. */
public final class WheelBoundsTest {
    private static final int LOST = ToothWheelTimer.LOST;
    private static final int SEEKING = ToothWheelTimer.SEEKING;
    private static final int COUNTING = ToothWheelTimer.COUNTING;
    private static final int LOCKED = ToothWheelTimer.LOCKED;
    private static final Due due = new Due();

    public static void main(String[] args) {
        firstEdge();
        secondEdge();
        badIntervals();
        plainIntervals();
        longIntervals();
        leastUnit();
        unitIsRoundedDown();
        lastToothAndPlain();
        lastToothAndLong();
        unitIsKnownUnlessLost();
        everyEdgeIsTheLatest();
        turnIsNotKnownFromCounting();
        turnZeroWithoutCam();
        turnZeroWithCam();
        turnOneGoesOn();
        turnNotKnownStaysSo();
        camMattersOnlyWhenLocked();
        camMakesTurnZero();
        camInTurnZero();
        camInTurnOne();
        camThatMakesZeroCounts();
        stallingByRest();
        stallingByEdge();
        stallingInSteps();
        stallingIsSinceTheEdge();
        noStallingWithoutUnit();
        edgeAtStallingIsTheFirst();
        anglesWrapAround();
        foretoldTimesAreRoundedDown();
        foretoldFarAhead();
        due.end();
    }

    private static ToothWheelTimer fresh() {
        return new ToothWheelTimer(12, 1, 1, 1);
    }

    private static ToothWheelTimer seeking(int u) {
        ToothWheelTimer x = fresh();
        x.edge(1);
        x.edge(u);
        return x;
    }

    private static ToothWheelTimer counting(int u, int tooth) {
        return onTo(Engine.count(fresh(), u), u, tooth);
    }

    private static ToothWheelTimer locked(int u, int tooth) {
        return onTo(Engine.lockWithTurn(fresh(), 12, u), u, tooth);
    }

    private static ToothWheelTimer onTo(ToothWheelTimer x, int u, int tooth) {
        x.teeth(tooth, u);
        return x;
    }

    private static void where(String name, ToothWheelTimer x, int state, int tooth, int turn, long unit) {
        due.same(name + ": state()", x.state(), state);
        due.same(name + ": tooth()", x.tooth(), tooth);
        due.same(name + ": turn()", x.turn(), turn);
        due.same(name + ": unit()", x.unit(), unit);
    }

    private static void firstEdge() {
        due.sentence("when there is no latest edge, nothing but the latest edge changes");
        for (int after : new int[] {1, 2, 1000000}) {
            ToothWheelTimer x = fresh();
            due.same("first edge(" + after + ")", x.edge(after), LOST);
            where("after edge(" + after + ")", x, LOST, -1, -1, 0);
            due.same("tally(3)", x.tally(3), 0);
        }
        ToothWheelTimer y = fresh();
        y.rest(10000000);
        due.same("first edge after a long rest", y.edge(1), LOST);
        where("after a long rest", y, LOST, -1, -1, 0);
    }

    private static void secondEdge() {
        due.sentence("When it is LOST with a latest edge, the unit becomes the time d since that edge, and it is SEEKING");
        for (int after : new int[] {1, 2, 999999, 1000000}) {
            ToothWheelTimer x = fresh();
            x.edge(3);
            due.same("edge(" + after + ")", x.edge(after), SEEKING);
            where("after edge(" + after + ")", x, SEEKING, -1, -1, after);
        }
        ToothWheelTimer y = fresh();
        y.edge(3);
        y.rest(10000000);
        due.same("edge after a rest", y.edge(1000000), SEEKING);
        due.same("unit over the rest", y.unit(), 11000000);
    }

    /** The unit, the longest interval that is BAD with it, and the shortest that is PLAIN. */
    private static final int[][] HALVES = {{2, 1, 2}, {3, 1, 2}, {4, 2, 3}, {100, 50, 51}, {101, 50, 51}, {102, 51, 52},
        {300001, 150000, 150001}};

    private static void badIntervals() {
        due.sentence("a BAD one when 2 * d <= u. BAD: it is LOST");
        for (int[] h : HALVES) {
            String name = "u = " + h[0] + ", d = " + h[1];
            badAfter(name + " when SEEKING", seeking(h[0]), h[1]);
            badAfter(name + " when COUNTING", counting(h[0], 3), h[1]);
            badAfter(name + " when COUNTING at P - 3", counting(h[0], 9), h[1]);
            badAfter(name + " when LOCKED", locked(h[0], 3), h[1]);
            badAfter(name + " when LOCKED at P - 3", locked(h[0], 9), h[1]);
            badAfter(name + ", less", locked(h[0], 3), 1);
        }
    }

    private static void badAfter(String name, ToothWheelTimer x, int d) {
        due.same(name, x.edge(d), LOST);
        where(name, x, LOST, -1, -1, 0);
    }

    private static void plainIntervals() {
        due.sentence("a PLAIN one when d < 2 * u and 2 * d > u. PLAIN: the unit becomes d; the tooth is the next one");
        for (int[] h : HALVES) {
            plainAfter(h[0], h[2]);
            plainAfter(h[0], h[0]);
            plainAfter(h[0], 2 * h[0] - 1);
        }
        plainAfter(1, 1);
    }

    private static void plainAfter(int u, int d) {
        String name = "u = " + u + ", d = " + d;
        ToothWheelTimer s = seeking(u);
        due.same(name + " when SEEKING", s.edge(d), SEEKING);
        where(name + " when SEEKING", s, SEEKING, -1, -1, d);
        ToothWheelTimer c = counting(u, 3);
        due.same(name + " when COUNTING", c.edge(d), COUNTING);
        where(name + " when COUNTING", c, COUNTING, 4, -1, d);
        ToothWheelTimer k = locked(u, 3);
        due.same(name + " when LOCKED", k.edge(d), LOCKED);
        where(name + " when LOCKED", k, LOCKED, 4, 0, d);
    }

    private static void longIntervals() {
        due.sentence("a LONG interval when d >= 2 * u. LONG: the unit becomes d / 3, and the tooth 0");
        for (int u : new int[] {2, 3, 100, 101}) {
            longAfter(u, 2 * u);
            longAfter(u, 2 * u + 1);
            longAfter(u, 5 * u - 1);
        }
    }

    private static void longAfter(int u, int d) {
        String name = "u = " + u + ", d = " + d;
        ToothWheelTimer s = seeking(u);
        due.same(name + " when SEEKING", s.edge(d), COUNTING);
        where(name + " when SEEKING", s, COUNTING, 0, -1, d / 3);
        ToothWheelTimer c = counting(u, 3);
        due.same(name + " when COUNTING", c.edge(d), COUNTING);
        where(name + " when COUNTING", c, COUNTING, 0, -1, d / 3);
        ToothWheelTimer k = locked(u, 3);
        due.same(name + " when LOCKED", k.edge(d), COUNTING);
        where(name + " when LOCKED", k, COUNTING, 0, -1, d / 3);
    }

    private static void leastUnit() {
        due.sentence("the unit becomes d / 3, but at least 1");
        // the unit before, d, and the unit that is due
        int[][] cases = {{1, 2, 1}, {1, 3, 1}, {1, 4, 1}, {2, 4, 1}, {2, 5, 1}, {2, 6, 2}};
        for (int[] c : cases) {
            String name = "u = " + c[0] + ", d = " + c[1];
            ToothWheelTimer x = seeking(c[0]);
            due.same(name, x.edge(c[1]), COUNTING);
            where(name, x, COUNTING, 0, -1, c[2]);
            ToothWheelTimer y = locked(c[0], 9);
            due.same(name + " at the gap", y.edge(c[1]), LOCKED);
            where(name + " at the gap", y, LOCKED, 0, 1, c[2]);
        }
    }

    private static void unitIsRoundedDown() {
        due.sentence("all divisions are rounded down: d / 3");
        int[][] cases = {{299, 99}, {300, 100}, {301, 100}, {302, 100}, {303, 101}};
        for (int[] c : cases) {
            ToothWheelTimer x = locked(100, 9);
            x.edge(c[0]);
            due.same("unit() after a gap of " + c[0], x.unit(), c[1]);
        }
    }

    private static void lastToothAndPlain() {
        due.sentence("at a tooth below P - 3, the tooth is the next one, and the state stays; at tooth P - 3 it is SEEKING");
        for (int p : new int[] {12, 13, 60}) {
            ToothWheelTimer c = Engine.count(new ToothWheelTimer(p, 1, 1, 1), 100);
            due.same("COUNTING to P - 4", c.teeth(p - 4, 100), COUNTING);
            due.same("tooth P - 4", c.tooth(), p - 4);
            due.same("COUNTING from P - 4", c.edge(100), COUNTING);
            due.same("tooth P - 3", c.tooth(), p - 3);
            due.same("COUNTING from P - 3", c.edge(100), SEEKING);
            where("COUNTING beyond P - 3", c, SEEKING, -1, -1, 100);
            due.same("tally(3)", c.tally(3), 0);
            ToothWheelTimer k = Engine.lockWithTurn(new ToothWheelTimer(p, 1, 1, 1), p, 100);
            due.same("LOCKED to P - 4", k.teeth(p - 4, 100), LOCKED);
            due.same("LOCKED from P - 4", k.edge(100), LOCKED);
            where("LOCKED at P - 3", k, LOCKED, p - 3, 0, 100);
            due.same("LOCKED from P - 3", k.edge(100), SEEKING);
            where("LOCKED beyond P - 3", k, SEEKING, -1, -1, 100);
            due.same("tally(3)", k.tally(3), 1);
        }
    }

    private static void lastToothAndLong() {
        due.sentence("COUNTING or LOCKED at tooth P - 3 becomes LOCKED, all others become COUNTING");
        for (int p : new int[] {12, 13, 60}) {
            int[][] cases = {{0, COUNTING}, {1, COUNTING}, {p - 4, COUNTING}, {p - 3, LOCKED}};
            for (int[] c : cases) {
                ToothWheelTimer x = Engine.count(new ToothWheelTimer(p, 1, 1, 1), 100);
                x.teeth(c[0], 100);
                due.same("COUNTING, gap at tooth " + c[0] + " of " + p, x.edge(300), c[1]);
                due.same("tooth()", x.tooth(), 0);
                ToothWheelTimer y = Engine.lockWithTurn(new ToothWheelTimer(p, 1, 1, 1), p, 100);
                y.teeth(c[0], 100);
                due.same("LOCKED, gap at tooth " + c[0] + " of " + p, y.edge(300), c[1]);
                due.same("tooth()", y.tooth(), 0);
                due.same("tally(3)", y.tally(3), c[1] == LOCKED ? 0 : 1);
            }
        }
        due.same("SEEKING", seeking(100).edge(300), COUNTING);
    }

    private static void unitIsKnownUnlessLost() {
        due.sentence("the UNIT (0 when not known, which is so when LOST and only then)");
        ToothWheelTimer x = fresh();
        due.same("new unit()", x.unit(), 0);
        x.edge(1);
        due.same("unit() after one edge", x.unit(), 0);
        x.edge(1);
        due.same("unit() after two", x.unit(), 1);
        x.rest(4);
        due.same("unit() just before stalling", x.unit(), 1);
        x.rest(1);
        due.same("unit() after stalling", x.unit(), 0);
        ToothWheelTimer y = seeking(100);
        y.edge(50);
        due.same("unit() after BAD", y.unit(), 0);
    }

    private static void everyEdgeIsTheLatest() {
        due.sentence("In every case this edge is the latest one afterwards");
        ToothWheelTimer bad = locked(100, 3);
        bad.edge(50);
        due.same("after BAD", bad.edge(70), SEEKING);
        due.same("since the BAD one", bad.unit(), 70);
        ToothWheelTimer plain = locked(100, 3);
        plain.edge(199);
        plain.edge(199);
        due.same("since the PLAIN one", plain.unit(), 199);
        ToothWheelTimer gap = locked(100, 3);
        gap.edge(200);
        due.same("PLAIN after LONG", gap.edge(66), COUNTING);
        due.same("since the LONG one", gap.unit(), 66);
        ToothWheelTimer first = fresh();
        first.rest(1000);
        first.edge(7);
        first.edge(9);
        due.same("since the first", first.unit(), 9);
    }

    private static void turnIsNotKnownFromCounting() {
        due.sentence("The turn is not known when it becomes LOCKED from COUNTING");
        ToothWheelTimer x = counting(100, 9);
        x.cam();
        due.same("gap", x.edge(300), LOCKED);
        where("from COUNTING, with a cam edge before", x, LOCKED, 0, -1, 100);
        ToothWheelTimer y = locked(100, 4);
        y.edge(300);
        y.teeth(9, 100);
        due.same("gap", y.edge(300), LOCKED);
        due.same("known once, but COUNTING since", y.turn(), -1);
    }

    private static void turnZeroWithoutCam() {
        due.sentence("if it was turn 0 and no cam edge came since that turn began, the turn is not known any more");
        ToothWheelTimer x = locked(100, 0);
        Engine.turnRound(x, 12, 100);
        due.same("turn 1 at its last tooth", onTo(x, 100, 9).turn(), 1);
        x.edge(300);
        due.same("turn 0, the cam edges were before it", x.turn(), 0);
        x.teeth(9, 100);
        due.same("turn 0 at its last tooth", x.turn(), 0);
        due.same("LOCKED all the same", x.edge(300), LOCKED);
        where("no cam edge in turn 0", x, LOCKED, 0, -1, 100);
        due.same("it has not ceased to be LOCKED", x.tally(3), 0);
    }

    private static void turnZeroWithCam() {
        due.sentence("otherwise the turn is the other one: turn 0 with a cam edge at its first or last time");
        ToothWheelTimer x = locked(100, 0);
        Engine.turnRound(x, 12, 100);
        Engine.turnRound(x, 12, 100);
        due.yes("cam at tooth 0 of turn 0", x.cam());
        due.same("turn stays", x.turn(), 0);
        Engine.turnRound(x, 12, 100);
        due.same("cam at the first time", x.turn(), 1);
        Engine.turnRound(x, 12, 100);
        x.teeth(9, 100);
        x.rest(299);
        due.yes("cam just before the gap ends", x.cam());
        x.edge(1);
        due.same("cam at the last time", x.turn(), 1);
        ToothWheelTimer y = locked(100, 0);
        Engine.turnRound(y, 12, 100);
        Engine.turnRound(y, 12, 100);
        y.teeth(9, 100);
        y.edge(300);
        due.yes("cam one edge too late", y.cam());
        due.same("that one makes it 0", y.turn(), 0);
    }

    private static void turnOneGoesOn() {
        due.sentence("otherwise the turn is the other one: turn 1 without a cam edge");
        ToothWheelTimer x = locked(100, 0);
        for (int i = 0; i < 4; i++) {
            Engine.turnRound(x, 12, 100);
            due.same("turn 1", x.turn(), 1);
            Engine.turnRound(x, 12, 100);
            due.same("turn 0", x.turn(), 0);
            x.cam();
        }
    }

    private static void turnNotKnownStaysSo() {
        due.sentence("with a LONG interval, and the turn is known");
        ToothWheelTimer x = Engine.lock(fresh(), 12, 100);
        for (int i = 0; i < 3; i++) {
            Engine.turnRound(x, 12, 100);
            where("not known, turn " + i, x, LOCKED, 0, -1, 100);
        }
    }

    private static void camMattersOnlyWhenLocked() {
        due.sentence("A CAM EDGE matters only when LOCKED");
        ToothWheelTimer x = fresh();
        due.no("cam when new", x.cam());
        x.edge(1);
        due.no("cam when LOST with an edge", x.cam());
        where("LOST", x, LOST, -1, -1, 0);
        x.edge(100);
        due.no("cam when SEEKING", x.cam());
        where("SEEKING", x, SEEKING, -1, -1, 100);
        x.edge(300);
        due.no("cam when COUNTING", x.cam());
        where("COUNTING", x, COUNTING, 0, -1, 100);
        x.teeth(9, 100);
        due.no("cam just before LOCKED", x.cam());
        x.edge(300);
        where("LOCKED", x, LOCKED, 0, -1, 100);
    }

    private static void camMakesTurnZero() {
        due.sentence("is the turn not known, it is 0");
        for (int tooth : new int[] {0, 1, 9}) {
            ToothWheelTimer x = Engine.lock(fresh(), 12, 100);
            x.teeth(tooth, 100);
            due.yes("cam at tooth " + tooth, x.cam());
            where("cam at tooth " + tooth, x, LOCKED, tooth, 0, 100);
        }
    }

    private static void camInTurnZero() {
        due.sentence("is it 0, it stays so");
        ToothWheelTimer x = locked(100, 0);
        for (int i = 0; i < 3; i++) {
            due.yes("cam again", x.cam());
            where("cam again", x, LOCKED, 0, 0, 100);
        }
    }

    private static void camInTurnOne() {
        due.sentence("is it 1, it is not known any more");
        for (int tooth : new int[] {0, 9}) {
            ToothWheelTimer x = locked(100, 0);
            Engine.turnRound(x, 12, 100);
            x.teeth(tooth, 100);
            due.yes("cam at tooth " + tooth + " of turn 1", x.cam());
            where("cam in turn 1", x, LOCKED, tooth, -1, 100);
            due.same("foretell(0)", x.foretell(0), -1);
        }
        ToothWheelTimer y = locked(100, 0);
        Engine.turnRound(y, 12, 100);
        y.cam();
        Engine.turnRound(y, 12, 100);
        due.same("not known after the gap either", y.turn(), -1);
        due.same("it has not ceased to be LOCKED", y.tally(3), 0);
    }

    private static void camThatMakesZeroCounts() {
        due.sentence("The cam edge that makes the turn 0 counts as one that came since that turn began");
        for (int tooth : new int[] {0, 9}) {
            ToothWheelTimer x = Engine.lock(fresh(), 12, 100);
            x.teeth(tooth, 100);
            x.cam();
            x.teeth(9 - tooth, 100);
            x.edge(300);
            due.same("turn after the cam edge at tooth " + tooth, x.turn(), 1);
        }
        ToothWheelTimer y = locked(100, 0);
        Engine.turnRound(y, 12, 100);
        y.cam();
        y.cam();
        due.same("known again in the same turn", y.turn(), 0);
        Engine.turnRound(y, 12, 100);
        due.same("and then 1", y.turn(), 1);
    }

    /** A timer in each state that has a unit, by number: SEEKING, COUNTING, LOCKED. */
    private static ToothWheelTimer inState(int state, int u) {
        return state == SEEKING ? seeking(u) : state == COUNTING ? counting(u, 2) : locked(u, 2);
    }

    private static void stallingByRest() {
        due.sentence("when the time comes to be 5 * u beyond the latest edge, then it is LOST: rest");
        for (int u : new int[] {1, 2, 100, 101, 333333}) {
            for (int state = SEEKING; state <= LOCKED; state++) {
                String name = "u = " + u + ", state " + state;
                ToothWheelTimer x = inState(state, u);
                x.rest(5 * u - 1);
                due.same(name + ": rest(5 * u - 1)", x.state(), state);
                due.same(name + ": unit()", x.unit(), u);
                ToothWheelTimer y = inState(state, u);
                y.rest(5 * u);
                where(name + ": rest(5 * u)", y, LOST, -1, -1, 0);
                due.same(name + ": tally(3)", y.tally(3), state == LOCKED ? 1 : 0);
                ToothWheelTimer z = inState(state, u);
                z.rest(10000000);
                where(name + ": rest(10000000)", z, LOST, -1, -1, 0);
                due.same(name + ": tally(3) after that", z.tally(3), state == LOCKED ? 1 : 0);
            }
        }
    }

    private static void stallingByEdge() {
        due.sentence("when the time comes to be 5 * u beyond the latest edge, then it is LOST: edge");
        for (int u : new int[] {1, 2, 100, 101, 200000}) {
            for (int state = SEEKING; state <= LOCKED; state++) {
                String name = "u = " + u + ", state " + state;
                due.same(name + ": edge(5 * u - 1)", inState(state, u).edge(5 * u - 1), COUNTING);
                due.same(name + ": edge(5 * u)", inState(state, u).edge(5 * u), LOST);
            }
            due.same("u = " + u + " at P - 3: edge(5 * u - 1)", locked(u, 9).edge(5 * u - 1), LOCKED);
            due.same("u = " + u + " at P - 3: edge(5 * u)", locked(u, 9).edge(5 * u), LOST);
        }
        due.same("edge(5 * u + 1)", locked(100, 9).edge(501), LOST);
    }

    private static void stallingInSteps() {
        due.sentence("when the time comes to be 5 * u beyond the latest edge, then it is LOST: several rests");
        ToothWheelTimer x = locked(100, 2);
        x.rest(250);
        x.rest(249);
        x.rest(0);
        where("5 * u - 1", x, LOCKED, 2, 0, 100);
        x.rest(1);
        where("5 * u", x, LOST, -1, -1, 0);
    }

    private static void stallingIsSinceTheEdge() {
        due.sentence("5 * u beyond the latest edge");
        ToothWheelTimer x = locked(100, 2);
        x.rest(150);
        x.edge(49);
        due.same("unit()", x.unit(), 199);
        x.rest(994);
        due.same("994 after the edge", x.state(), LOCKED);
        x.rest(1);
        due.same("995 after the edge", x.state(), LOST);
        ToothWheelTimer y = locked(100, 2);
        y.rest(300);
        due.same("an edge 499 after the latest one", y.edge(199), COUNTING);
        ToothWheelTimer z = locked(100, 2);
        z.rest(300);
        due.same("an edge 500 after the latest one", z.edge(200), LOST);
    }

    private static void noStallingWithoutUnit() {
        due.sentence("STALLING: when the unit is u > 0");
        ToothWheelTimer x = fresh();
        x.edge(1);
        x.rest(10000000);
        due.same("one edge, a long rest, an edge", x.edge(1), SEEKING);
        due.same("unit()", x.unit(), 10000001);
        ToothWheelTimer y = locked(100, 2);
        y.edge(50);
        y.rest(10000000);
        due.same("BAD, a long rest, an edge", y.edge(1), SEEKING);
        due.same("unit()", y.unit(), 10000001);
        due.same("tally(3)", y.tally(3), 1);
    }

    private static void edgeAtStallingIsTheFirst() {
        due.sentence("and there is no latest edge; an edge at just that time is then the first one");
        int[] gone = {500, 501, 1000000};
        for (int d : gone) {
            ToothWheelTimer x = locked(100, 9);
            due.same("edge(" + d + ")", x.edge(d), LOST);
            where("edge(" + d + ")", x, LOST, -1, -1, 0);
            due.same("the next edge", x.edge(70), SEEKING);
            due.same("unit() since the first one", x.unit(), 70);
        }
        ToothWheelTimer y = locked(100, 9);
        y.rest(500);
        due.same("first edge after stalling", y.edge(1), LOST);
        due.same("second edge after stalling", y.edge(8), SEEKING);
        due.same("unit()", y.unit(), 8);
        ToothWheelTimer z = seeking(100);
        due.same("teeth(2, 5 * u)", z.teeth(2, 500), SEEKING);
        due.same("unit()", z.unit(), 500);
    }

    private static void anglesWrapAround() {
        due.sentence("\"mod C\" gives 0 .. C - 1, also for negative numbers");
        for (int p : new int[] {12, 60}) {
            int c = 128 * p;
            ToothWheelTimer x = Engine.lockWithTurn(new ToothWheelTimer(p, 1, 1, 1), p, 64);
            long start = 1 + (p + 4) * 64L;
            foretold(x, start, c, 0);
            x.edge(64);
            foretold(x, start + 64, c, 64);
            x.teeth(p - 4, 64);
            foretold(x, start + 64 * (p - 3), c, 64 * (p - 3));
            x.edge(192);
            foretold(x, start + 64 * p, c, 64 * p);
            x.teeth(p - 3, 64);
            foretold(x, start + 64 * (2 * p - 3), c, 64 * (2 * p - 3));
        }
    }

    /** With the unit 64 a step takes the time 1. */
    private static void foretold(ToothWheelTimer x, long time, int c, int here) {
        String name = "C = " + c + ", A = " + here + ": ";
        due.same(name + "foretell(A)", x.foretell(here), time);
        due.same(name + "foretell(A + 1)", x.foretell(here + 1), time + 1);
        due.same(name + "foretell(A - 1)", x.foretell(here == 0 ? c - 1 : here - 1), time + c - 1);
        due.same(name + "foretell(C - 1)", x.foretell(c - 1), time + c - 1 - here);
        due.same(name + "foretell(0)", x.foretell(0), time + (here == 0 ? 0 : c - here));
    }

    private static void foretoldTimesAreRoundedDown() {
        due.sentence("all divisions are rounded down: * unit / 64");
        ToothWheelTimer x = locked(65, 0);
        long start = 1 + 16 * 65;
        due.same("63 * 65 / 64 = 63.98", x.foretell(63), start + 63);
        due.same("64 * 65 / 64 = 65", x.foretell(64), start + 65);
        due.same("1535 * 65 / 64 = 1558.98", x.foretell(1535), start + 1558);
        ToothWheelTimer y = locked(1, 0);
        due.same("63 / 64", y.foretell(63), 17);
        due.same("64 / 64", y.foretell(64), 18);
    }

    /** Products and times that an int would not hold. */
    private static void foretoldFarAhead() {
        due.sentence("The time foretold for an angle");
        ToothWheelTimer x = fresh();
        x.edge(1);
        slowEdge(x, 1);
        slowEdge(x, 3);
        for (int i = 0; i < 9; i++) {
            slowEdge(x, 1);
        }
        slowEdge(x, 3);
        x.cam();
        long u = 11000000;
        where("unit of 11000000", x, LOCKED, 0, 0, u);
        due.same("foretell(1535)", x.foretell(1535), 1 + 16 * u + 1535 * u / 64);
        due.same("foretell(0)", x.foretell(0), 1 + 16 * u);
        ToothWheelTimer y = fresh();
        for (int i = 0; i < 300; i++) {
            y.rest(10000000);
        }
        Engine.lockWithTurn(y, 12, 100);
        due.same("after 3000000000", y.foretell(64), 3000000000L + 1 + 17 * 100);
    }

    private static void slowEdge(ToothWheelTimer x, int units) {
        for (int i = 1; i < units; i++) {
            x.rest(10000000);
            x.rest(1000000);
        }
        x.rest(10000000);
        x.edge(1000000);
    }
}
