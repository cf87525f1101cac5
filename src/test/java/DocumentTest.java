/**
 * The document once more, from its first line: the sentences that name no bound, and where words might be taken in two
 * ways, what tells the one from the other.
 */
public final class DocumentTest {
    private static final long START = Engine.START;
    private static final int LOCKED = ToothWheelTimer.LOCKED;
    private static final int MOST_CALLS = 512;
    /** Nine of Engine.timer and five of Engine.lock. */
    private static final int SETUP_CALLS = 14;
    private static final Due due = new Due();

    /** Tooth 4 of turn 1, when the unit is 640. */
    private static final long FOURTH = START + 7680 + 2560;
    /** Tooth 9 of the second turn 0, when the unit is 640. */
    private static final long NINTH = START + 15360 + 5760;

    public static void main(String[] args) {
        lastCall();
        longestLife();
        objectsApart();
        anglesOfTeeth();
        cycleIsTwoTurns();
        timeAtFirst();
        lockedWithoutTurnByCam();
        lockedWithoutTurnByCamFires();
        lockedWithoutTurnByGap();
        lockedWithoutTurnByGapFires();
        lockedWithoutTurnPlansNothing();
        amountOfTheChart();
        amountOfSensorZero();
        amountOfSensorOne();
        amountOfTheUnit();
        amountAfterOpening();
        notDueAnyMore();
        manyInOneRest();
        beforeACamEdge();
        advanceAfterTheEdge();
        planningBeforeFiring();
        limitWhenPlanned();
        limitOfAFasterWheel();
        limitOfEachCylinder();
        limitOfAFailedSensor();
        sampleBeforeAndLatest();
        frameStays();
        outputsBeyondAnInt();
        due.end();
    }

    /** One cylinder through whole cycles of five calls, in each a spark and an opening. */
    private static ToothWheelTimer used(int calls) {
        ToothWheelTimer x = Engine.timer(1, 1, 100000, 0, 100);
        Engine.lock(x, 12, 640);
        int made = SETUP_CALLS;
        for (; made + 5 <= calls; made += 5) {
            x.cam();
            Engine.turnRound(x, 12, 640);
            Engine.turnRound(x, 12, 640);
        }
        for (; made < calls; made++) {
            x.rest(0);
        }
        return x;
    }

    private static void lastCall() {
        due.sentence("An object is used for at most 512 calls after it has been made");
        int before = MOST_CALLS - 1;
        int cycles = (before - SETUP_CALLS) / 5;
        long now = START + cycles * 15360L;
        due.same("state()", used(before).state(), LOCKED);
        due.same("tooth()", used(before).tooth(), 0);
        due.same("turn()", used(before).turn(), 0);
        due.same("unit()", used(before).unit(), 640);
        due.same("foretell(64)", used(before).foretell(64), now + 640);
        due.same("output(0)", used(before).output(0), Engine.off(now, 0));
        due.same("output(15)", used(before).output(15), Engine.opened(now - 3 * 15360 - 7680, 0));
        due.same("tally(0)", used(before).tally(0), cycles);
        due.same("tally(2)", used(before).tally(2), 4 * cycles);
        due.same("waiting()", used(before).waiting(), 0);
        due.same("running()", used(before).running(), 0);
        due.same("value(1)", used(before).value(1), 84);
        due.same("count(0)", used(before).count(0), 0);
        due.same("frame(0, 0)", used(before).frame(0, 0), -1);
        due.same("look(1, 312, 896)", used(before).look(1, 312, 896), 100);
        due.yes("set(1, 0, 0, 5)", used(before).set(1, 0, 0, 5));
        due.yes("sample(1, 301)", used(before).sample(1, 301));
        due.same("clear()", used(before).clear(), 0);
        due.same("edge(640)", used(before).edge(640), LOCKED);
        due.same("teeth(64, 640)", used(before).teeth(64, 640), ToothWheelTimer.SEEKING);
        due.yes("cam()", used(before).cam());
        due.same("rest(10000000)", used(before).rest(10000000), 0);
    }

    private static void longestLife() {
        due.sentence("An object is used for at most 512 calls: the longest time");
        ToothWheelTimer x = new ToothWheelTimer(12, 6, 8, 100000);
        for (int i = 0; i < 508; i++) {
            x.teeth(64, 1000000);
        }
        Engine.fail(x, 0, 3);
        due.same("frame(0, 0)", x.frame(0, 0), 508L * 64 * 1000000);
    }

    /** What one object is told, no other one hears. */
    private static void objectsApart() {
        due.sentence("A new object");
        ToothWheelTimer busy = Engine.allOn();
        Engine.fail(busy, 0, 3);
        ToothWheelTimer x = new ToothWheelTimer(12, 6, 1, 100000);
        due.same("look", x.look(1, 312, 896), 0);
        due.same("running()", x.running(), 0);
        due.same("waiting()", x.waiting(), 0);
        due.same("count(0)", x.count(0), 0);
        due.same("clear()", x.clear(), 0);
        due.tallies("new beside another", x, 0, 0, 0, 0);
        due.same("the first edge", x.edge(1), ToothWheelTimer.LOST);
        x.rest(10000000);
        due.same("the other's state()", busy.state(), LOCKED);
        due.same("the other's running()", busy.running(), 63 + 63 * 256);
        due.same("the other's clear()", busy.clear(), 1);
    }

    private static void anglesOfTeeth() {
        due.sentence("tooth n of turn r (0 or 1) is at the angle (r * P + n) * 64");
        for (int p : new int[] {12, 13, 37, 60}) {
            ToothWheelTimer x = Engine.lockWithTurn(new ToothWheelTimer(p, 1, 1, 1), p, 99);
            long time = 1 + (p + 4) * 99L;
            for (int turn = 0; turn < 2; turn++) {
                for (int tooth = 0; tooth <= p - 3; tooth++) {
                    String name = "P = " + p + ", turn " + turn + ", tooth " + tooth;
                    due.same(name + ": tooth()", x.tooth(), tooth);
                    due.same(name + ": turn()", x.turn(), turn);
                    due.same(name + ": foretell", x.foretell((turn * p + tooth) * 64), time);
                    int after = tooth == p - 3 ? 3 * 99 : 99;
                    x.edge(after);
                    time += after;
                }
            }
        }
    }

    private static void cycleIsTwoTurns() {
        due.sentence("A CYCLE is two turns. C = 128 * P, 64 for each position");
        for (int p : new int[] {12, 59}) {
            ToothWheelTimer x = Engine.lockWithTurn(new ToothWheelTimer(p, 1, 1, 1), p, 64);
            long start = x.foretell(0);
            long last = x.foretell(128 * p - 1);
            Engine.turnRound(x, p, 64);
            Engine.turnRound(x, p, 64);
            due.same("turn()", x.turn(), 0);
            due.same("foretell(0) a cycle later", x.foretell(0), start + 128 * p);
            due.same("foretell(C - 1) before", last, start + 128 * p - 1);
        }
    }

    private static void timeAtFirst() {
        due.sentence("The TIME is 0 at first");
        ToothWheelTimer x = new ToothWheelTimer(12, 1, 1, 1);
        Engine.fail(x, 1, 3);
        due.same("frame(1, 0)", x.frame(1, 0), 0);
        ToothWheelTimer y = Engine.lockWithTurn(new ToothWheelTimer(12, 1, 1, 1), 12, 100);
        due.same("foretell(0)", y.foretell(0), 1601);
    }

    /** At tooth 4 of turn 1: the one coil is charged 300 later (1054 = 1536 - a - 64), and sparks 640 after that. */
    private static ToothWheelTimer chargeWaits(int dwell) {
        ToothWheelTimer x = Engine.timer(1, 1, dwell, 418, 0);
        Engine.lockWithTurn(x, 12, 640);
        Engine.turnRound(x, 12, 640);
        x.teeth(4, 640);
        return x;
    }

    /** At tooth 4 of turn 1: injector 1 of five is opened 510 later (307 + 768 = 1075, 51 after 1024). */
    private static ToothWheelTimer openWaits(int fuel) {
        ToothWheelTimer x = Engine.timer(5, 1, 1, 0, fuel);
        Engine.lockWithTurn(x, 12, 640);
        Engine.turnRound(x, 12, 640);
        x.teeth(4, 640);
        return x;
    }

    /** The cam edge in turn 1 makes the turn unknown, and nothing else. */
    private static void camInTurnOne(String name, ToothWheelTimer x, int waiting) {
        int running = x.running();
        int switchings = x.tally(2);
        due.same(name + ": waiting() before", x.waiting(), waiting);
        due.yes(name + ": cam()", x.cam());
        due.same(name + ": turn()", x.turn(), -1);
        due.same(name + ": state()", x.state(), LOCKED);
        due.same(name + ": waiting()", x.waiting(), waiting);
        due.same(name + ": running()", x.running(), running);
        due.same(name + ": tally(2)", x.tally(2), switchings);
        due.same(name + ": tally(3)", x.tally(3), 0);
    }

    private static void lockedWithoutTurnByCam() {
        due.sentence("WHEN IT CEASES TO BE LOCKED: when LOCKED a turn 0 or 1, or the turn is not known: cam edge, CHARGE, FIRE");
        ToothWheelTimer x = chargeWaits(100000);
        camInTurnOne("CHARGE waits", x, 1);
        due.same("rest(299)", x.rest(299), 0);
        due.same("rest(1)", x.rest(1), 1);
        due.outputs("CHARGE", x, Engine.on(FOURTH + 300, 0), -1);
        ToothWheelTimer y = chargeWaits(100000);
        y.edge(640);
        camInTurnOne("FIRE and CUT wait", y, 2);
        due.same("rest(299)", y.rest(299), 0);
        due.same("rest(1)", y.rest(1), 1);
        due.outputs("FIRE", y, Engine.off(FOURTH + 940, 0), Engine.on(FOURTH + 300, 0), -1);
        due.tallies("FIRE", y, 1, 0, 2, 0);
    }

    private static void lockedWithoutTurnByCamFires() {
        due.sentence("WHEN IT CEASES TO BE LOCKED: when LOCKED a turn 0 or 1, or the turn is not known: cam edge, CUT, OPEN, CLOSE");
        ToothWheelTimer x = chargeWaits(500);
        x.rest(300);
        camInTurnOne("CUT waits", x, 1);
        x.edge(340);
        due.same("no FIRE is planned", x.waiting(), 1);
        due.same("rest(159)", x.rest(159), 0);
        due.same("rest(1)", x.rest(1), 1);
        due.outputs("CUT", x, Engine.off(FOURTH + 800, 0), Engine.on(FOURTH + 300, 0), -1);
        due.tallies("CUT", x, 0, 1, 2, 0);
        ToothWheelTimer y = openWaits(400);
        int before = y.tally(2);
        camInTurnOne("OPEN waits", y, 1);
        y.rest(510);
        due.outputs("OPEN", y, Engine.opened(FOURTH + 510, 1));
        due.same("CLOSE waits", y.waiting(), 1);
        y.rest(400);
        due.outputs("CLOSE", y, Engine.closed(FOURTH + 910, 1), Engine.opened(FOURTH + 510, 1));
        due.same("two switchings", y.tally(2), before + 2);
        ToothWheelTimer z = openWaits(400);
        z.rest(510);
        camInTurnOne("CLOSE waits", z, 1);
        due.same("rest(399)", z.rest(399), 0);
        due.same("rest(1)", z.rest(1), 1);
        due.outputs("CLOSE", z, Engine.closed(FOURTH + 910, 1), Engine.opened(FOURTH + 510, 1));
    }

    /**
     * One cylinder at tooth 9 of the second turn 0, in which no cam edge came; CHARGE and FIRE are due so many steps
     * after that tooth, 64 from one to the other.
     */
    private static ToothWheelTimer secondTurn(int steps, int dwell, int fuel) {
        ToothWheelTimer x = Engine.timer(1, 1, dwell, 1536 - 64 - 576 - steps, fuel);
        Engine.lockWithTurn(x, 12, 640);
        Engine.turnRound(x, 12, 640);
        Engine.turnRound(x, 12, 640);
        x.teeth(9, 640);
        return x;
    }

    /** The gap ends after 1280, and turn 0 had no cam edge: the turn is not known, and nothing else happens. */
    private static void gapWithoutCam(String name, ToothWheelTimer x, int waiting) {
        x.rest(1279);
        int running = x.running();
        int switchings = x.tally(2);
        due.same(name + ": turn() before", x.turn(), 0);
        due.same(name + ": waiting() before", x.waiting(), waiting);
        due.same(name + ": edge(1)", x.edge(1), LOCKED);
        due.same(name + ": turn()", x.turn(), -1);
        due.same(name + ": unit()", x.unit(), 426);
        due.same(name + ": waiting()", x.waiting(), waiting);
        due.same(name + ": running()", x.running(), running);
        due.same(name + ": tally(2)", x.tally(2), switchings);
        due.same(name + ": tally(3)", x.tally(3), 0);
    }

    private static void lockedWithoutTurnByGap() {
        due.sentence("WHEN IT CEASES TO BE LOCKED: when LOCKED a turn 0 or 1, or the turn is not known: gap, CHARGE, FIRE");
        ToothWheelTimer x = secondTurn(150, 100000, 0);
        gapWithoutCam("CHARGE waits", x, 1);
        due.same("rest(219)", x.rest(219), 0);
        due.same("rest(1)", x.rest(1), 1);
        due.outputs("CHARGE", x, Engine.on(NINTH + 1500, 0));
        ToothWheelTimer y = secondTurn(86, 100000, 0);
        int sparks = y.tally(0);
        gapWithoutCam("FIRE and CUT wait", y, 2);
        due.same("rest(219)", y.rest(219), 0);
        due.same("rest(1)", y.rest(1), 1);
        due.outputs("FIRE", y, Engine.off(NINTH + 1500, 0), Engine.on(NINTH + 860, 0));
        due.same("a spark", y.tally(0), sparks + 1);
    }

    private static void lockedWithoutTurnByGapFires() {
        due.sentence("WHEN IT CEASES TO BE LOCKED: when LOCKED a turn 0 or 1, or the turn is not known: gap, CUT, CLOSE");
        ToothWheelTimer x = secondTurn(86, 500, 0);
        int cuts = x.tally(1);
        gapWithoutCam("CUT and FIRE wait", x, 2);
        due.same("rest(79)", x.rest(79), 0);
        due.same("rest(1)", x.rest(1), 1);
        due.outputs("CUT", x, Engine.off(NINTH + 1360, 0), Engine.on(NINTH + 860, 0));
        due.same("a cut", x.tally(1), cuts + 1);
        // opened at 768, half a cycle after START; NINTH + 1280 is 14720 after that
        ToothWheelTimer y = secondTurn(0, 1, 15000);
        due.same("open", y.running() & 256, 256);
        gapWithoutCam("CLOSE waits", y, 1);
        due.same("rest(279)", y.rest(279), 0);
        due.same("rest(1)", y.rest(1), 1);
        due.outputs("CLOSE", y, Engine.closed(START + 7680 + 15000, 0));
    }

    private static void lockedWithoutTurnPlansNothing() {
        due.sentence("PLANNING is done at each edge after which it is LOCKED with the turn known: what waits fires, nothing is added");
        ToothWheelTimer x = Engine.allOn();
        x.cam();
        due.same("turn()", x.turn(), -1);
        due.same("waiting()", x.waiting(), 12);
        due.same("running()", x.running(), 63 + 63 * 256);
        int before = x.tally(2);
        for (int i = 0; i < 2; i++) {
            x.teeth(i == 0 ? 4 : 9, 640);
            x.edge(1920);
        }
        due.yes("some were closed", x.tally(2) > before);
        due.same("what waits still and what was switched", x.waiting() + x.tally(2) - before, 12);
        due.same("coils on, each with its CUT", x.running() & 63, 63);
        due.same("LOCKED still: tally(3)", x.tally(3), 0);
    }

    private static void amount(String name, ToothWheelTimer x, int amount) {
        due.outputs(name, x, Engine.opened(FOURTH + 510, 1));
        due.same(name + ": rest before it closes", x.rest(amount - 1), 0);
        due.same(name + ": rest to the CLOSE", x.rest(1), 1);
        due.outputs(name, x, Engine.closed(FOURTH + 510 + amount, 1));
    }

    private static void amountOfTheChart() {
        due.sentence("OPEN: when the AMOUNT is not 0 (when it fires): the chart as it is then");
        int[][] cases = {{400, 700}, {0, 700}, {400, 1}};
        for (int[] c : cases) {
            ToothWheelTimer x = openWaits(c[0]);
            due.same("OPEN waits", x.waiting(), 1);
            x.rest(509);
            Engine.present(x, 1, c[1]);
            x.rest(1);
            amount(c[0] + ", then " + c[1], x, c[1]);
        }
        ToothWheelTimer y = openWaits(400);
        int before = y.tally(2);
        Engine.present(y, 1, 0);
        due.same("nothing is opened", y.rest(600), 0);
        due.same("nothing waits", y.waiting(), 0);
        due.same("tally(2)", y.tally(2), before);
    }

    /** The fuel is 400 at y = 768 to 1279 and 900 from 1280 on; at y = 700 it is (145 * 68 + 400 * 188) / 256 = 332.3. */
    private static void amountOfSensorZero() {
        due.sentence("OPEN: a CLOSE is planned for AMOUNT later (when it fires): the value of sensor 0 as it is then");
        for (int way = 0; way < 3; way++) {
            ToothWheelTimer x = openWaits(400);
            for (int i = 1; i < 3; i++) {
                x.set(1, i, 2, 145);
                x.set(1, i, 5, 900);
                x.set(1, i, 6, 900);
            }
            x.rest(509);
            if (way == 1) {
                x.sample(0, 732);
            } else if (way == 2) {
                Engine.fail(x, 0, 3);
            }
            x.rest(1);
            amount("way " + way, x, way == 0 ? 400 : way == 1 ? 900 : 332);
        }
    }

    private static void amountOfSensorOne() {
        due.sentence("OPEN: a CLOSE is planned for AMOUNT later (when it fires): the value of sensor 1 as it is then");
        // 512 gives 60, W = 20; three that fail give 80, W = 0
        ToothWheelTimer x = openWaits(400);
        x.rest(509);
        x.sample(1, 512);
        x.rest(1);
        amount("sample 512", x, 480);
        ToothWheelTimer y = openWaits(400);
        y.sample(1, 512);
        y.rest(509);
        Engine.fail(y, 1, 3);
        y.rest(1);
        amount("sample 512, then three that fail", y, 400);
    }

    /** The fuel is x itself. Tooth 5 comes before the injector opens: then the unit is 400, and x = 500 instead of 312. */
    private static void amountOfTheUnit() {
        due.sentence("OPEN: a CLOSE is planned for AMOUNT later (when it fires): the unit as it is then");
        for (int early = 0; early < 3; early++) {
            ToothWheelTimer x = openWaits(0);
            for (int j = 3; j < 5; j++) {
                x.set(1, 1, j, 256);
                x.set(1, 2, j, 512);
            }
            if (early == 2) {
                x.cam();
            }
            if (early > 0) {
                x.edge(400);
                due.same("OPEN waits still", x.waiting(), 1);
                due.same("rest(109)", x.rest(109), 0);
                due.same("rest(1)", x.rest(1), 1);
            } else {
                x.rest(510);
            }
            amount("early " + early, x, early > 0 ? 500 : 312);
        }
    }

    private static void amountAfterOpening() {
        due.sentence("OPEN: a CLOSE is planned for AMOUNT later: what changes thereafter does not matter");
        ToothWheelTimer x = openWaits(400);
        x.rest(510);
        Engine.present(x, 1, 0);
        x.sample(0, 1000);
        x.sample(1, 500);
        amount("changed after opening", x, 400);
    }

    private static void notDueAnyMore() {
        due.sentence("Planning one removes the waiting event: an event that is not planned again waits on");
        // CHARGE waits for 500 after tooth 4 (1074 = 1536 - 398 - 64); at tooth 5, which comes after 400, it is not due
        ToothWheelTimer x = Engine.timer(1, 1, 100000, 398, 0);
        Engine.lockWithTurn(x, 12, 640);
        Engine.turnRound(x, 12, 640);
        x.teeth(4, 640);
        Engine.level(x, 0, 0);
        x.edge(400);
        due.same("CHARGE waits on", x.waiting(), 1);
        due.same("rest(99)", x.rest(99), 0);
        due.same("rest(1)", x.rest(1), 1);
        due.outputs("CHARGE", x, Engine.on(FOURTH + 500, 0), -1);
    }

    /** All is on, the turn is not known, and the wheel slows down: what waits comes before it stalls, 25565 later. */
    private static void manyInOneRest() {
        due.sentence("They fire in the order of their times: all in one call");
        ToothWheelTimer x = Engine.allOn(30000);
        x.cam();
        x.edge(1279);
        x.edge(2557);
        x.edge(5113);
        due.same("injector 4 is closed: running()", x.running(), 63 + 47 * 256);
        due.same("waiting()", x.waiting(), 11);
        due.same("rest(25000)", x.rest(25000), 11);
        due.same("LOCKED still", x.state(), LOCKED);
        long again = START + 15360 + 30000;
        due.outputs("five CLOSE and six CUT", x, Engine.off(again + 10880, 0), Engine.off(again + 8960, 5),
            Engine.off(again + 7040, 4), Engine.off(again + 5120, 3), Engine.off(again + 3840, 2),
            Engine.closed(START + 15360 + 32000, 3), Engine.off(again + 1920, 1), Engine.closed(START + 12800 + 32000, 2),
            Engine.closed(START + 10240 + 32000, 1), Engine.closed(START + 7680 + 32000, 0),
            Engine.closed(START + 5120 + 32000, 5), Engine.closed(START + 2560 + 32000, 4));
        due.same("six cuts", x.tally(1), 6);
        due.same("running()", x.running(), 0);
        due.same("waiting()", x.waiting(), 0);
    }

    private static void beforeACamEdge() {
        due.sentence("before anything else happens at that time or later: a cam edge");
        ToothWheelTimer x = chargeWaits(100000);
        due.same("rest(300)", x.rest(300), 1);
        camInTurnOne("cam edge at the time of CHARGE", x, 1);
        due.outputs("CHARGE", x, Engine.on(FOURTH + 300, 0), -1);
    }

    /** The advance is x itself: 312 with the unit 640, 400 with 500, 250 with 800. */
    private static ToothWheelTimer advanceBySpeed(int tooth) {
        ToothWheelTimer x = new ToothWheelTimer(12, 1, 1, 100000);
        for (int n = 0; n < 64; n++) {
            x.set(0, n / 8, n % 8, 256 * (n / 8));
        }
        Engine.lockWithTurn(x, 12, 640);
        Engine.turnRound(x, 12, 640);
        x.teeth(tooth, 640);
        return x;
    }

    private static void advanceAfterTheEdge() {
        due.sentence("a the present value of chart 0 (all as they are after the edge)");
        // FIRE at 1536 - 312 = 1224 would be 8 after tooth 7 of turn 1, at 1536 - 400 it is behind
        ToothWheelTimer x = advanceBySpeed(6);
        due.same("CHARGE waits", x.waiting(), 1);
        x.edge(500);
        due.same("CUT alone waits", x.waiting(), 1);
        due.same("coil on", x.running(), 1);
        ToothWheelTimer same = advanceBySpeed(6);
        same.edge(640);
        due.same("CUT and FIRE wait", same.waiting(), 2);
        // FIRE at 1536 - 250 = 1286 is 6 after tooth 8 of turn 1: 6 * 800 / 64 = 75
        ToothWheelTimer y = advanceBySpeed(7);
        y.edge(800);
        due.tallies("sparked before tooth 8", y, 1, 0, 2, 0);
        due.same("FIRE waits again", y.waiting(), 1);
        y.rest(74);
        due.same("FIRE waits still", y.waiting(), 1);
        y.rest(1);
        due.same("FIRE waits no more", y.waiting(), 0);
        due.tallies("the coil was off", y, 1, 0, 2, 0);
    }

    /** What is planned with an edge has been planned before what the events of that edge plan themselves. */
    private static void planningBeforeFiring() {
        due.sentence("Thereafter events whose time has come fire: when all is planned");
        // at tooth 7 (448) CHARGE 0 is due, its CUT 120 later, and OPEN 4 at 460, 120 later
        ToothWheelTimer x = Engine.timer(5, 1, 120, 1024, 10);
        Engine.lockWithTurn(x, 12, 640);
        x.teeth(7, 640);
        due.same("CUT 0 and OPEN 4 wait", x.waiting(), 2);
        x.rest(120);
        long time = START + 4480 + 120;
        due.outputs("OPEN 4, then CUT 0", x, Engine.off(time, 0), Engine.opened(time, 4), Engine.on(time - 120, 0));
        // at tooth 9 (576) CHARGE 0 is due, its CUT 640 later, and FIRE 0 at 640, 640 later
        ToothWheelTimer y = Engine.timer(1, 1, 640, 1536 - 640, 0);
        Engine.lockWithTurn(y, 12, 640);
        y.teeth(9, 640);
        due.same("FIRE and CUT wait", y.waiting(), 2);
        y.rest(640);
        due.tallies("FIRE, and its CUT is removed", y, 1, 0, 2, 0);
        due.same("waiting()", y.waiting(), 0);
    }

    /** The unit is 150; at tooth 4 of turn 1 CHARGE 0 is planned for 30 * 150 / 64 = 70 later, OPEN 1 for 119 later. */
    private static void limitWhenPlanned() {
        due.sentence("but CHARGE and OPEN are not when u is below the LIMIT: when planned, not when they fire");
        for (int way = 0; way < 3; way++) {
            ToothWheelTimer x = new ToothWheelTimer(12, 5, 1, 100000);
            Engine.level(x, 0, 418);
            Engine.level(x, 1, 40);
            x.sample(1, 300);
            Engine.lockWithTurn(x, 12, 150);
            Engine.turnRound(x, 12, 150);
            x.teeth(4, 150);
            due.same("CHARGE 0 and OPEN 1 wait, and a CUT", x.waiting(), 2 + Integer.bitCount(x.running() & 31));
            if (way < 2) {
                Engine.fail(x, way, 3);
            } else {
                x.sample(1, 100);
                due.yes("H is above 110", x.value(1) > 110);
            }
            long fourth = 1 + 16 * 150 + 16 * 150;
            due.same("rest(70)", x.rest(70), 1);
            due.outputs("CHARGE", x, Engine.on(fourth + 70, 0));
            due.same("rest(49)", x.rest(49), 1);
            due.outputs("OPEN", x, Engine.opened(fourth + 119, 1));
            int running = x.running();
            x.teeth(5, 150);
            x.edge(450);
            due.same("neither is planned with the LIMIT of 200", x.running() & ~running, 0);
        }
    }

    private static void limitOfAFasterWheel() {
        due.sentence("but CHARGE and OPEN are not when u is below the LIMIT: what waits is not removed");
        // the unit is 110, then 60: CHARGE 0 waits for 48 * 110 / 64 = 82 after tooth 4, OPEN 1 for 51 * 110 / 64 = 87
        ToothWheelTimer x = new ToothWheelTimer(12, 5, 1, 100000);
        Engine.level(x, 0, 400);
        Engine.level(x, 1, 40);
        x.sample(1, 300);
        Engine.lockWithTurn(x, 12, 110);
        Engine.turnRound(x, 12, 110);
        x.teeth(4, 110);
        long fourth = 1 + 16 * 110 + 16 * 110;
        x.edge(60);
        due.same("unit()", x.unit(), 60);
        due.same("rest(21)", x.rest(21), 0);
        due.same("rest(1)", x.rest(1), 1);
        due.outputs("CHARGE", x, Engine.on(fourth + 82, 0));
        due.same("rest(5)", x.rest(5), 1);
        due.outputs("OPEN", x, Engine.opened(fourth + 87, 1));
    }

    private static void limitOfEachCylinder() {
        due.sentence("for each cylinder c: but CHARGE and OPEN are not when u is below the LIMIT");
        for (int u = 99; u <= 100; u++) {
            ToothWheelTimer x = new ToothWheelTimer(12, 6, 1, 1);
            Engine.level(x, 1, 5);
            Engine.lockWithTurn(x, 12, u);
            int seen = 0;
            for (int i = 0; i < 24; i++) {
                x.edge(x.tooth() == 9 ? 3 * u : u);
                if (x.turn() == 0) {
                    x.cam();
                }
                for (int k = 0; k < 6; k++) {
                    seen |= x.output(k) < 0 ? 0 : 1 << (x.output(k) % 32 / 2);
                }
            }
            due.same("u = " + u + ": coils and injectors that were switched", seen, u == 99 ? 0 : 63 + 63 * 256);
        }
    }

    /** A hot sample, but the sensor has failed: H is 80. When it is well again, H is what it was. */
    private static void limitOfAFailedSensor() {
        due.sentence("or H is above 110: H, the value of sensor 1");
        for (int failing = 2; failing <= 3; failing++) {
            ToothWheelTimer x = new ToothWheelTimer(12, 1, 1, 100000);
            Engine.level(x, 1, 10);
            x.sample(1, 100);
            Engine.fail(x, 1, failing);
            x.clear();
            due.same("value(1)", x.value(1), failing == 3 ? 80 : 120);
            Engine.lockWithTurn(x, 12, 150);
            Engine.turnRound(x, 12, 150);
            due.same(failing + " failing samples: running()", x.running(), failing == 3 ? 256 : 0);
        }
    }

    private static void sampleBeforeAndLatest() {
        due.sentence("the sample before it of the same sensor; the latest sample that did not fail");
        for (int sensor = 0; sensor < 2; sensor++) {
            ToothWheelTimer x = new ToothWheelTimer(12, 1, 1, 1);
            int at256 = sensor == 0 ? 256 : 90;
            int at768 = sensor == 0 ? 768 : 25;
            due.yes("256", x.sample(sensor, 256));
            due.no("768 is far from the sample before it", x.sample(sensor, 768));
            due.same("the latest that did not fail is 256", x.value(sensor), at256);
            due.no("256 is far from the sample before it, which failed", x.sample(sensor, 256));
            due.same("the latest that did not fail is the first 256", x.value(sensor), at256);
            due.same("count", x.count(sensor), 2);
            due.yes("the same again is near the sample before it", x.sample(sensor, 256));
            due.no("1008", x.sample(sensor, 1008));
            due.yes("768 after a sample that was not 16 .. 1007", x.sample(sensor, 768));
            due.same("the latest that did not fail is 768", x.value(sensor), at768);
            due.same("count", x.count(sensor), 1);
        }
    }

    private static void frameStays() {
        due.sentence("the time, the unit, and the value of sensor 0 when it was stored");
        ToothWheelTimer x = new ToothWheelTimer(12, 1, 1, 1);
        x.sample(0, 700);
        x.edge(10);
        x.edge(30);
        Engine.fail(x, 1, 3);
        x.edge(40);
        x.sample(0, 600);
        Engine.fail(x, 1, 3);
        due.same("time", x.frame(1, 0), 40);
        due.same("unit", x.frame(1, 1), 30);
        due.same("value of sensor 0", x.frame(1, 2), 700);
        Engine.fail(x, 0, 3);
        x.clear();
        for (int i = 0; i < 4; i++) {
            x.sample(1, 300);
        }
        Engine.fail(x, 1, 1);
        due.same("time of another code", x.frame(1, 0), 80);
        due.same("unit of another code", x.frame(1, 1), 40);
        due.same("the value of a sensor 0 that has failed", x.frame(1, 2), 400);
    }

    private static void outputsBeyondAnInt() {
        due.sentence("the time * 32 + 16 if it is an injector + 2 * cylinder + 1 if it was switched on or opened: of a late time");
        ToothWheelTimer x = Engine.timer(2, 1, 100000, 32, 100);
        for (int i = 0; i < 300; i++) {
            x.rest(10000000);
        }
        Engine.lockWithTurn(x, 12, 640);
        Engine.turnRound(x, 12, 640);
        x.rest(100);
        long half = 3000000000L + START + 7680;
        due.outputs("after 3000000000", x, Engine.closed(half + 100, 0), Engine.opened(half, 0), Engine.off(half - 320, 1),
            Engine.on(half - 960, 1), -1);
    }
}
