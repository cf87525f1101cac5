/** The sentences under "EVENTS" and "WHEN IT CEASES TO BE LOCKED" that name a bound: at it and just beyond. */
public final class EventBoundsTest {
    private static final long START = Engine.START;
    private static final Due due = new Due();

    public static void main(String[] args) {
        plannedAgain();
        plannedForAnotherCylinder();
        plannedOfAnotherKind();
        laterPlannedEarlierTime();
        equalTimesOfOneCylinder();
        equalTimesOfTwoCylinders();
        equalTimesOfTwoEdges();
        beforeAnEdge();
        beforeStalling();
        beforeTheEndOfARest();
        beforeACall();
        chargeWhenOnOrOff();
        chargeOfAnotherCylinder();
        cutAfterDwell();
        cutAndFireOfOneEdge();
        cutAndFireOfTwoEdges();
        fireWhenOff();
        fireRemovesTheCut();
        amountOfNothing();
        openWhenOpenOrClosed();
        closeAfterAmount();
        ceasingByEachWay();
        ceasingWithNothingOn();
        ceasingWithAllOn();
        ceasingAtTheTimeOfStalling();
        ceasingOnlyFromLocked();
        ceasingRemovesWhatWaits();
        ceasingRemovesItForGood();
        ceasingRemovesEachCharge();
        due.end();
    }

    /**
     * FIRE 2 of six waits 63 after tooth 5, with the unit 64, where nothing else is planned; then tooth 6 comes after
     * 33, and the advance is another.
     */
    private static ToothWheelTimer fireWaits(int nextLead) {
        ToothWheelTimer x = new ToothWheelTimer(12, 6, 1, 1);
        Engine.level(x, 0, 129);
        Engine.lockWithTurn(x, 12, 64);
        x.teeth(5, 64);
        due.same("FIRE waits", x.waiting(), 1);
        Engine.level(x, 0, nextLead);
        x.edge(33);
        return x;
    }

    private static void plannedAgain() {
        due.sentence("Planning one removes the waiting event of the same kind and cylinder, if there is one");
        // FIRE 2 is now due at 512 - 118 = 394, which is 10 after tooth 6: 10 * 33 / 64 = 5
        ToothWheelTimer x = fireWaits(118);
        due.same("planned again: waiting()", x.waiting(), 1);
        x.rest(4);
        due.same("planned again: waiting() before its time", x.waiting(), 1);
        x.rest(1);
        due.same("planned again: waiting() at its time", x.waiting(), 0);
        ToothWheelTimer y = fireWaits(129);
        due.same("not planned again: waiting()", y.waiting(), 1);
        y.rest(29);
        due.same("not planned again: waiting() before its time", y.waiting(), 1);
        y.rest(1);
        due.same("not planned again: waiting() at its time", y.waiting(), 0);
    }

    private static void plannedForAnotherCylinder() {
        due.sentence("of the same kind and cylinder: not that of another cylinder");
        // FIRE 3 is now due at 768 - 374 = 394
        ToothWheelTimer x = fireWaits(374);
        due.same("both wait", x.waiting(), 2);
        x.rest(5);
        due.same("FIRE 2 waits", x.waiting(), 1);
        x.rest(24);
        due.same("FIRE 2 waits still", x.waiting(), 1);
        x.rest(1);
        due.same("none waits", x.waiting(), 0);
    }

    private static void plannedOfAnotherKind() {
        due.sentence("of the same kind and cylinder: not that of another kind");
        // CHARGE 1 is due at 703, FIRE 1 at 767; when the coil is on, CUT and FIRE wait
        ToothWheelTimer x = Engine.timer(2, 1, 100000, 1, 0);
        Engine.lockWithTurn(x, 12, 640);
        x.teeth(9, 640);
        due.same("CHARGE and FIRE wait", x.waiting(), 2);
        x.rest(1270);
        due.same("FIRE and CUT wait", x.waiting(), 2);
        x.rest(640);
        due.same("none waits", x.waiting(), 0);
        due.tallies("spark", x, 1, 0, 2, 0);
    }

    private static void laterPlannedEarlierTime() {
        due.sentence("They fire in the order of their times");
        // five cylinders: at tooth 7 (448) CHARGE 2 is planned before OPEN 4, which is due at 460
        int[][] cases = {{450, 4500, 4600}, {459, 4590, 4600}, {461, 4600, 4610}, {470, 4600, 4700}};
        for (int[] c : cases) {
            ToothWheelTimer y = Engine.timer(5, 1, 100000, 614 - 64 - c[0], 1000);
            Engine.lockWithTurn(y, 12, 640);
            y.teeth(7, 640);
            due.same("rest over both", y.rest(300), 2);
            boolean coilFirst = c[0] < 460;
            long first = coilFirst ? Engine.on(START + c[1], 2) : Engine.opened(START + c[1], 4);
            long second = coilFirst ? Engine.opened(START + c[2], 4) : Engine.on(START + c[2], 2);
            due.outputs("CHARGE 2 at " + c[0] + ", OPEN 4 at 460", y, second, first);
        }
    }

    private static void equalTimesOfOneCylinder() {
        due.sentence("of equal times the one that was planned first: in the order CHARGE, FIRE, OPEN");
        long half = START + 7680;
        // a = C / 2: FIRE and OPEN are both due at 768
        ToothWheelTimer x = Engine.timer(1, 1, 100000, 768, 100);
        Engine.lockWithTurn(x, 12, 640);
        Engine.turnRound(x, 12, 640);
        due.outputs("FIRE, then OPEN", x, Engine.opened(half, 0), Engine.off(half, 0), Engine.on(half - 640, 0), -1);
        // a + 64 * Q = C / 2: CHARGE and OPEN are
        ToothWheelTimer y = Engine.timer(1, 1, 100000, 704, 100);
        Engine.lockWithTurn(y, 12, 640);
        Engine.turnRound(y, 12, 640);
        due.outputs("CHARGE, then OPEN", y, Engine.opened(half, 0), Engine.on(half, 0), -1);
    }

    private static void equalTimesOfTwoCylinders() {
        due.sentence("of equal times the one that was planned first: for each cylinder c in rising order");
        long half = START + 7680;
        ToothWheelTimer x = Engine.timer(2, 1, 100000, 0, 100);
        Engine.lockWithTurn(x, 12, 640);
        Engine.turnRound(x, 12, 640);
        due.outputs("OPEN 0, then FIRE 1", x, Engine.off(half, 1), Engine.opened(half, 0));
        Engine.turnRound(x, 12, 640);
        due.outputs("FIRE 0, then OPEN 1", x, Engine.opened(half + 7680, 1), Engine.off(half + 7680, 0));
        // three cylinders, Q = 8: CHARGE 0 is due at 1024 - a with FIRE 2, CHARGE 1 at 0 - a with FIRE 0
        ToothWheelTimer y = new ToothWheelTimer(12, 3, 8, 100000);
        Engine.present(y, 0, 0);
        Engine.lockWithTurn(y, 12, 640);
        Engine.turnRound(y, 12, 640);
        y.teeth(4, 640);
        due.outputs("CHARGE 0, then FIRE 2", y, Engine.off(START + 10240, 2), Engine.on(START + 10240, 0));
        y.teeth(5, 640);
        y.edge(1920);
        due.outputs("FIRE 0, then CHARGE 1", y, Engine.on(START + 15360, 1), Engine.off(START + 15360, 0));
    }

    private static void equalTimesOfTwoEdges() {
        due.sentence("of equal times the one that was planned first: at an earlier edge");
        // OPEN 0 at 768 for 640: its CLOSE is due with tooth 1, where CHARGE 0 is due too, at 832
        int[][] cases = {{639, 18560}, {640, 18561}};
        for (int[] c : cases) {
            ToothWheelTimer x = Engine.timer(2, 1, 100000, 640, c[0]);
            Engine.lockWithTurn(x, 12, 640);
            Engine.turnRound(x, 12, 640);
            x.edge(640);
            due.outputs("amount " + c[0], x, Engine.on(18561, 0), Engine.closed(c[1], 0), Engine.opened(17921, 0));
        }
        ToothWheelTimer y = Engine.timer(2, 1, 100000, 640, 641);
        Engine.lockWithTurn(y, 12, 640);
        Engine.turnRound(y, 12, 640);
        y.edge(640);
        y.rest(1);
        due.outputs("amount 641", y, Engine.closed(18562, 0), Engine.on(18561, 0), Engine.opened(17921, 0));
    }

    /** A coil that is on at tooth 6, whose FIRE is due so many steps later. */
    private static ToothWheelTimer sparkAfterToothSix(int steps) {
        ToothWheelTimer x = Engine.timer(2, 1, 100000, 384 - steps, 0);
        Engine.lockWithTurn(x, 12, 640);
        x.teeth(6, 640);
        due.same("coil on", x.running(), 2);
        return x;
    }

    private static void beforeAnEdge() {
        due.sentence("before anything else happens at that time or later: an edge");
        long edge = START + 3840;
        for (int steps : new int[] {31, 32}) {
            ToothWheelTimer x = sparkAfterToothSix(steps);
            due.same("BAD edge", x.edge(320), ToothWheelTimer.LOST);
            due.tallies(steps + " steps", x, 1, 0, 2, 1);
            due.outputs(steps + " steps", x, Engine.off(edge + 10 * steps, 1));
        }
        ToothWheelTimer y = sparkAfterToothSix(33);
        due.same("BAD edge", y.edge(320), ToothWheelTimer.LOST);
        due.tallies("33 steps", y, 0, 0, 2, 1);
        due.outputs("33 steps", y, Engine.off(edge + 320, 1));
    }

    private static void beforeStalling() {
        due.sentence("before anything else happens at that time or later: stalling");
        // the coil is on since tooth 6, Q = 6
        int[][] cases = {{3199, 1}, {3200, 1}, {3201, 0}};
        for (int[] c : cases) {
            for (int way = 0; way < 2; way++) {
                ToothWheelTimer x = Engine.timer(2, 6, c[0], 0, 0);
                Engine.lockWithTurn(x, 12, 640);
                x.teeth(6, 640);
                if (way == 0) {
                    x.rest(3300);
                } else {
                    x.edge(3300);
                }
                due.tallies("D = " + c[0], x, 0, c[1], 2, 1);
                due.outputs("D = " + c[0], x, Engine.off(START + 3840 + Math.min(c[0], 3200), 1));
            }
        }
    }

    private static void beforeTheEndOfARest() {
        due.sentence("before anything else happens at that time or later: the end of a rest");
        for (int steps : new int[] {1, 32, 63}) {
            ToothWheelTimer x = sparkAfterToothSix(steps);
            due.same("one before", x.rest(10 * steps - 1), 0);
            due.same("running() before", x.running(), 2);
            due.same("rest(0)", x.rest(0), 0);
            due.same("at the time", x.rest(1), 1);
            due.same("running() then", x.running(), 0);
            due.same("rest(0) again", x.rest(0), 0);
        }
    }

    /** OPEN 1 of five is due 510 after tooth 4 of turn 1; the first sample of sensor 1 makes 1200 of 1000 * 1.2. */
    private static void beforeACall() {
        due.sentence("before anything else happens at that time or later: any call");
        int[][] cases = {{509, 1000}, {510, 1200}};
        for (int[] c : cases) {
            ToothWheelTimer x = new ToothWheelTimer(12, 5, 1, 100000);
            Engine.present(x, 1, 1000);
            Engine.lockWithTurn(x, 12, 640);
            Engine.turnRound(x, 12, 640);
            x.teeth(4, 640);
            x.rest(c[0]);
            due.yes("a sample", x.sample(1, 300));
            x.rest(510 - c[0]);
            long opened = START + 10750;
            due.outputs("sample after " + c[0], x, Engine.opened(opened, 1));
            x.rest(c[1]);
            due.outputs("sample after " + c[0], x, Engine.closed(opened + c[1], 1), Engine.opened(opened, 1));
        }
    }

    /**
     * The one coil goes on at 1472, and before its FIRE at 1536 the advance is 64 more, so that FIRE is missed. In the
     * next cycle CHARGE is due at 1408, 14720 after the first, and FIRE at 1472, 15360 after it.
     */
    private static ToothWheelTimer missedSpark(int dwell) {
        ToothWheelTimer x = Engine.timer(1, 1, dwell, 0, 0);
        Engine.lockWithTurn(x, 12, 640);
        Engine.turnRound(x, 12, 640);
        x.teeth(9, 640);
        Engine.present(x, 0, 64);
        x.edge(1920);
        x.cam();
        Engine.turnRound(x, 12, 640);
        Engine.turnRound(x, 12, 640);
        return x;
    }

    private static final long CHARGED = START + 14720;

    private static void chargeWhenOnOrOff() {
        due.sentence("CHARGE: when the coil is off, it is switched on, and a CUT is planned for D later");
        long again = CHARGED + 14720;
        for (int dwell : new int[] {14719, 14720}) {
            ToothWheelTimer x = missedSpark(dwell);
            due.tallies("D = " + dwell, x, 1, 1, 4, 0);
            due.outputs("D = " + dwell, x, Engine.off(again + 640, 0), Engine.on(again, 0), Engine.off(CHARGED + dwell, 0),
                Engine.on(CHARGED, 0), -1);
        }
        ToothWheelTimer y = missedSpark(14721);
        due.tallies("D = 14721", y, 0, 1, 2, 0);
        due.outputs("D = 14721", y, Engine.off(CHARGED + 14721, 0), Engine.on(CHARGED, 0), -1);
    }

    /** As missedSpark, half a cycle earlier with coil 1, while coil 0 goes on at 1408 and sparks at 1472. */
    private static void chargeOfAnotherCylinder() {
        due.sentence("CHARGE: when the coil is off: that of its cylinder");
        long charged = START + 7040;
        for (int dwell : new int[] {14720, 14721}) {
            ToothWheelTimer x = Engine.timer(2, 1, dwell, 0, 0);
            Engine.lockWithTurn(x, 12, 640);
            x.teeth(9, 640);
            Engine.present(x, 0, 64);
            x.edge(1920);
            Engine.turnRound(x, 12, 640);
            x.cam();
            Engine.turnRound(x, 12, 640);
            if (dwell == 14720) {
                due.tallies("D = 14720", x, 2, 1, 6, 0);
                due.outputs("D = 14720", x, Engine.off(charged + 15360, 1), Engine.on(charged + 14720, 1),
                    Engine.off(charged + 14720, 1), Engine.off(START + 14720, 0), Engine.on(START + 14080, 0));
            } else {
                due.tallies("D = 14721", x, 1, 1, 4, 0);
                due.outputs("D = 14721", x, Engine.off(charged + 14721, 1), Engine.off(START + 14720, 0));
            }
        }
    }

    private static void cutAndFireOfTwoEdges() {
        due.sentence("of equal times the one that was planned first: a CUT of an earlier cycle and FIRE");
        // D, sparks, cuts
        int[][] cases = {{15359, 0, 1}, {15360, 0, 1}, {15361, 1, 0}};
        for (int[] c : cases) {
            ToothWheelTimer x = missedSpark(c[0]);
            due.tallies("D = " + c[0], x, c[1], c[2], 2, 0);
            due.outputs("D = " + c[0], x, Engine.off(CHARGED + Math.min(c[0], 15360), 0), Engine.on(CHARGED, 0), -1);
        }
    }

    private static void cutAfterDwell() {
        due.sentence("CUT: the coil is switched off, a cut is counted");
        for (int dwell : new int[] {1, 2, 2559}) {
            ToothWheelTimer x = Engine.timer(2, 6, dwell, 0, 0);
            Engine.lockWithTurn(x, 12, 640);
            x.teeth(6, 640);
            if (dwell > 1) {
                due.same("D = " + dwell + ": one before", x.rest(dwell - 1), 0);
            }
            due.tallies("D = " + dwell + ": before", x, 0, 0, 1, 0);
            due.same("D = " + dwell + ": then", x.rest(1), 1);
            due.tallies("D = " + dwell + ": then", x, 0, 1, 2, 0);
            due.same("waiting()", x.waiting(), 0);
            due.same("running()", x.running(), 0);
        }
    }

    private static void cutAndFireOfOneEdge() {
        due.sentence("of equal times the one that was planned first: FIRE of an edge and the CUT of its CHARGE");
        // CHARGE 1 is due at 640 and FIRE 1 at 704, both in the gap, 640 from one to the other
        int[][] cases = {{639, 0, 1}, {640, 1, 0}, {641, 1, 0}};
        for (int[] c : cases) {
            ToothWheelTimer x = Engine.timer(2, 1, c[0], 64, 0);
            Engine.lockWithTurn(x, 12, 640);
            Engine.turnRound(x, 12, 640);
            due.tallies("D = " + c[0], x, c[1], c[2], 2, 0);
            due.outputs("D = " + c[0], x, Engine.off(START + 6400 + Math.min(640, c[0]), 1), Engine.on(START + 6400, 1), -1);
        }
    }

    private static void fireWhenOff() {
        due.sentence("FIRE: when the coil is on");
        // cut after 1, long before its FIRE
        ToothWheelTimer x = Engine.timer(2, 6, 1, 0, 0);
        Engine.lockWithTurn(x, 12, 640);
        Engine.turnRound(x, 12, 640);
        due.tallies("cut before", x, 0, 1, 2, 0);
        // FIRE is planned, but no CHARGE ever was
        ToothWheelTimer y = new ToothWheelTimer(12, 6, 1, 100000);
        Engine.lockWithTurn(y, 12, 99);
        Engine.turnRound(y, 12, 99);
        due.tallies("never charged", y, 0, 0, 0, 0);
        due.same("running()", y.running(), 0);
    }

    private static void fireRemovesTheCut() {
        due.sentence("it is switched off, a spark is counted, and its CUT is removed");
        ToothWheelTimer x = sparkAfterToothSix(1);
        due.same("FIRE and CUT wait", x.waiting(), 2);
        due.same("rest to the spark", x.rest(10), 1);
        due.same("none waits", x.waiting(), 0);
        due.tallies("spark", x, 1, 0, 2, 0);
        // D beyond the spark: no cut comes for it, though the wheel goes on
        ToothWheelTimer y = Engine.timer(2, 1, 641, 64, 0);
        Engine.lockWithTurn(y, 12, 640);
        Engine.turnRound(y, 12, 640);
        y.teeth(3, 640);
        due.tallies("no cut after the spark", y, 1, 0, 2, 0);
    }

    private static void amountOfNothing() {
        due.sentence("OPEN: when the injector is closed and the AMOUNT is not 0");
        for (int fuel = 0; fuel <= 2; fuel++) {
            ToothWheelTimer x = Engine.timer(1, 1, 100000, 0, fuel);
            Engine.lockWithTurn(x, 12, 640);
            Engine.turnRound(x, 12, 640);
            due.same("fuel " + fuel + ": running()", x.running(), fuel == 0 ? 0 : 256);
            due.same("fuel " + fuel + ": waiting()", x.waiting(), fuel == 0 ? 0 : 1);
            due.same("fuel " + fuel + ": rest(1)", x.rest(1), fuel == 1 ? 1 : 0);
            due.same("fuel " + fuel + ": rest(1) again", x.rest(1), fuel == 2 ? 1 : 0);
            due.same("fuel " + fuel + ": tally(2)", x.tally(2), fuel == 0 ? 0 : 2);
        }
    }

    /** A cycle takes 15360, after which OPEN comes again. */
    private static void openWhenOpenOrClosed() {
        due.sentence("OPEN: when the injector is closed");
        long first = START + 7680;
        long again = first + 15360;
        for (int fuel : new int[] {15359, 15360, 15361}) {
            ToothWheelTimer x = Engine.timer(1, 1, 100000, 0, fuel);
            Engine.lockWithTurn(x, 12, 640);
            Engine.turnRound(x, 12, 640);
            Engine.turnRound(x, 12, 640);
            x.cam();
            Engine.turnRound(x, 12, 640);
            due.same("fuel " + fuel + ": open", x.running(), 256);
            if (fuel <= 15360) {
                due.outputs("fuel " + fuel, x, Engine.opened(again, 0), Engine.closed(first + fuel, 0));
            }
            due.same("fuel " + fuel + ": rest(1)", x.rest(1), fuel == 15361 ? 1 : 0);
            if (fuel == 15361) {
                due.outputs("fuel " + fuel, x, Engine.closed(again + 1, 0), Engine.off(first + 7680, 0));
                due.same("fuel " + fuel + ": waiting()", x.waiting(), 0);
            }
        }
    }

    private static void closeAfterAmount() {
        due.sentence("it is opened, and a CLOSE is planned for AMOUNT later. CLOSE: it is closed");
        for (int fuel : new int[] {1, 2, 640, 3199}) {
            ToothWheelTimer x = Engine.timer(1, 1, 100000, 0, fuel);
            Engine.lockWithTurn(x, 12, 640);
            Engine.turnRound(x, 12, 640);
            due.same("fuel " + fuel + ": one before", x.rest(fuel - 1), 0);
            due.same("fuel " + fuel + ": running()", x.running(), 256);
            due.same("fuel " + fuel + ": then", x.rest(1), 1);
            due.same("fuel " + fuel + ": running() then", x.running(), 0);
            due.outputs("fuel " + fuel, x, Engine.closed(START + 7680 + fuel, 0), Engine.opened(START + 7680, 0), -1);
        }
    }

    /** LOCKED at a tooth with coil 1 on since tooth 4 of turn 0 (Q = 8). */
    private static ToothWheelTimer charged(int tooth) {
        ToothWheelTimer x = Engine.timer(2, 8, 100000, 0, 0);
        Engine.lockWithTurn(x, 12, 640);
        x.teeth(tooth, 640);
        due.same("coil 1 on", x.running(), 2);
        return x;
    }

    private static void ceasingByEachWay() {
        due.sentence("WHEN IT CEASES TO BE LOCKED every coil that is on is switched off at that time. (No spark is counted.)");
        // the tooth, the interval, the state after it, and the time of switching off since that tooth
        int[][] cases = {{5, 320, ToothWheelTimer.LOST, 320}, {5, 1280, ToothWheelTimer.COUNTING, 1280},
            {5, 3199, ToothWheelTimer.COUNTING, 3199}, {9, 1279, ToothWheelTimer.SEEKING, 1279},
            {9, 321, ToothWheelTimer.SEEKING, 321}, {9, 3200, ToothWheelTimer.LOST, 3200},
            {9, 100000, ToothWheelTimer.LOST, 3200}};
        for (int[] c : cases) {
            String name = "tooth " + c[0] + ", edge(" + c[1] + ")";
            ToothWheelTimer x = charged(c[0]);
            due.same(name, x.edge(c[1]), c[2]);
            due.tallies(name, x, 0, 0, 2, 1);
            due.outputs(name, x, Engine.off(START + 640 * c[0] + c[3], 1), Engine.on(START + 2560, 1), -1);
            due.same(name + ": running()", x.running(), 0);
            due.same(name + ": waiting()", x.waiting(), 0);
        }
        ToothWheelTimer y = charged(9);
        due.same("LOCKED goes on", y.edge(1280), ToothWheelTimer.LOCKED);
        due.tallies("LOCKED goes on", y, 1, 0, 2, 0);
    }

    private static void ceasingWithNothingOn() {
        due.sentence("every coil that is on and every injector that is open: none");
        ToothWheelTimer x = Engine.timer(2, 1, 100000, 0, 0);
        Engine.lock(x, 12, 640);
        due.same("BAD edge", x.edge(320), ToothWheelTimer.LOST);
        due.tallies("none on", x, 0, 0, 0, 1);
        due.same("output(0)", x.output(0), -1);
    }

    private static void ceasingWithAllOn() {
        due.sentence("coils first, each sort in the order of the cylinders");
        for (int way = 0; way < 2; way++) {
            ToothWheelTimer x = Engine.allOn();
            due.same("running()", x.running(), 63 + 63 * 256);
            int before = x.tally(2);
            int sparks = x.tally(0);
            long end = START + 26240 + (way == 0 ? 320 : 3200);
            if (way == 0) {
                due.same("BAD edge", x.edge(320), ToothWheelTimer.LOST);
            } else {
                due.same("rest over stalling", x.rest(4000), 12);
            }
            due.tallies("all on", x, sparks, 0, before + 12, 1);
            due.outputs("all on", x, Engine.closed(end, 5), Engine.closed(end, 4), Engine.closed(end, 3), Engine.closed(end, 2),
                Engine.closed(end, 1), Engine.closed(end, 0), Engine.off(end, 5), Engine.off(end, 4), Engine.off(end, 3),
                Engine.off(end, 2), Engine.off(end, 1), Engine.off(end, 0), Engine.on(START + 26240, 0));
            due.same("running() then", x.running(), 0);
            due.same("waiting() then", x.waiting(), 0);
        }
    }

    private static void ceasingAtTheTimeOfStalling() {
        due.sentence("switched off at that time: of stalling, not of the call's end");
        ToothWheelTimer x = charged(5);
        due.same("rest(3199)", x.rest(3199), 0);
        due.same("running()", x.running(), 2);
        due.same("rest(10000000)", x.rest(10000000), 1);
        due.outputs("stalled", x, Engine.off(START + 3200 + 3200, 1));
        due.tallies("stalled", x, 0, 0, 2, 1);
    }

    private static void ceasingOnlyFromLocked() {
        due.sentence("WHEN IT CEASES TO BE LOCKED: not when it was not, nor when only the turn is not known any more");
        ToothWheelTimer x = Engine.timer(2, 8, 3000, 0, 0);
        Engine.count(x, 640);
        x.edge(320);
        due.same("BAD when COUNTING", x.tally(3), 0);
        ToothWheelTimer y = Engine.timer(1, 8, 100000, 0, 0);
        Engine.lockWithTurn(y, 12, 640);
        Engine.turnRound(y, 12, 640);
        y.teeth(4, 640);
        due.same("coil 0 on", y.running(), 1);
        y.cam();
        due.same("turn()", y.turn(), -1);
        due.same("coil 0 on still", y.running(), 1);
        due.same("its CUT waits", y.waiting(), 1);
        due.tallies("turn not known", y, 0, 0, 1, 0);
    }

    private static void ceasingRemovesWhatWaits() {
        due.sentence("all events that wait are removed");
        ToothWheelTimer x = sparkAfterToothSix(33);
        due.same("waiting()", x.waiting(), 2);
        x.edge(320);
        due.same("waiting() when LOST", x.waiting(), 0);
        due.same("rest", x.rest(10000000), 0);
        due.tallies("nothing came", x, 0, 0, 2, 1);
        ToothWheelTimer y = Engine.allOn();
        due.same("six CUT and six CLOSE: waiting()", y.waiting(), 12);
        y.edge(1280);
        due.same("COUNTING", y.state(), ToothWheelTimer.COUNTING);
        due.same("waiting() when COUNTING", y.waiting(), 0);
        due.same("rest(2000)", y.rest(2000), 0);
    }

    /** Twelve events wait, of which none comes when it is LOCKED again. */
    private static void ceasingRemovesItForGood() {
        due.sentence("all events that wait are removed: none comes later");
        ToothWheelTimer x = Engine.allOn();
        x.edge(320);
        int sparks = x.tally(0);
        int before = x.tally(2);
        Engine.present(x, 0, 0);
        Engine.present(x, 1, 0);
        // that edge is the latest one; LOCKED again at START + 26560 + 16 * 640
        x.edge(640);
        x.edge(1920);
        x.teeth(9, 640);
        x.edge(1920);
        x.cam();
        long start = START + 26560 + 16 * 640;
        due.same("foretell(0)", x.foretell(0), start);
        x.teeth(2, 640);
        due.same("nothing is planned yet: waiting()", x.waiting(), 0);
        x.edge(640);
        due.same("the CUT of coil 1 alone: waiting()", x.waiting(), 1);
        due.outputs("coil 1 on", x, Engine.on(start + 1920, 1));
        // 15 turns more, so that every CLOSE and CUT of before would have come; each has three sparks
        x.teeth(6, 640);
        x.edge(1920);
        for (int i = 0; i < 15; i++) {
            Engine.turnRound(x, 12, 640);
            if (x.turn() == 0) {
                x.cam();
            }
        }
        due.yes("time", x.foretell(0) > START + 26560 + 100000);
        due.tallies("all later ones sparked", x, sparks + 48, 0, before + 96, 1);
    }

    /** CHARGE waits 60 after tooth 5. Then the wheel is so fast that FIRE alone is planned: no coil may go on. */
    private static void ceasingRemovesEachCharge() {
        due.sentence("all events that wait are removed: CHARGE of each cylinder");
        for (int c = 0; c < 6; c++) {
            ToothWheelTimer x = Engine.timer(6, 1, 100000, Math.floorMod(256 * c - 64 - 380, 1536), 0);
            Engine.lockWithTurn(x, 12, 640);
            x.teeth(5, 640);
            int before = x.tally(2);
            due.same("CHARGE " + c + " waits", x.waiting(), 1);
            x.edge(320);
            x.edge(64);
            x.edge(192);
            x.teeth(9, 64);
            x.edge(192);
            x.cam();
            Engine.turnRound(x, 12, 64);
            Engine.turnRound(x, 12, 64);
            due.same("CHARGE " + c + " does not come", x.tally(2), before);
            due.same("running()", x.running(), 0);
            due.same("waiting()", x.waiting(), 0);
        }
    }
}
