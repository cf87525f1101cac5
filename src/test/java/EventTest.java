/** Promises 12 and 18 to 21: rest, output, tally, waiting and running; and how events are planned and fire. */
public final class EventTest {
    private static final Due due = new Due();

    public static void main(String[] args) {
        oneCylinder();
        advanceMovesChargeAndSpark();
        planningIsByTooth();
        gapIsPlannedAtTheLastTooth();
        chartsAreReadWhereTheEngineStands();
        chartOfTheFastestWheel();
        amountIsWarmed();
        noFuelNoOpening();
        openWhileOpen();
        chargeWhileOn();
        fireWithoutCharge();
        cutAndFireAtOneTime();
        orderOfPlanning();
        plannedAgainIsPlannedLast();
        planningReplaces();
        limitOfSpeed();
        limitWithCode();
        limitWhenHot();
        ceasingSwitchesOff();
        nothingStaysAfterCeasing();
        ceasingAtStalling();
        eventsAtStalling();
        eventsGoOnWithoutTurn();
        restAnswers();
        outputsKept();
        wrongNumbers();
        due.end();
    }

    private static ToothWheelTimer timer(int cylinders, int charge, int dwell, int lead, int fuel) {
        ToothWheelTimer x = new ToothWheelTimer(12, cylinders, charge, dwell);
        Engine.level(x, 0, lead);
        Engine.level(x, 1, fuel);
        x.sample(1, 342); // 90 + (-30 * 86) / 256 = 90 - 11 = 79: one part in a hundred more fuel
        return x;
    }

    /** P = 12, u = 640: 10 for each step of the angle; tooth 0 of turn 0 at 10241, of turn 1 at 17921. */
    private static void oneCylinder() {
        ToothWheelTimer x = timer(1, 2, 100000, 0, 100);
        Engine.lockWithTurn(x, 12, 640);
        due.tallies("locked", x, 0, 0, 0, 0);
        due.same("waiting() before any planning", x.waiting(), 0);
        Engine.turnRound(x, 12, 640);
        due.outputs("at half the cycle", x, Engine.opened(17921, 0), -1);
        due.same("running()", x.running(), 256);
        due.same("waiting() for CLOSE", x.waiting(), 1);
        due.same("rest(100)", x.rest(100), 0);
        due.same("rest(1)", x.rest(1), 1);
        due.outputs("closed", x, Engine.closed(18022, 0), Engine.opened(17921, 0), -1);
        due.same("waiting()", x.waiting(), 0);
        x.edge(539);
        x.teeth(8, 640);
        due.same("tooth", x.tooth(), 9);
        due.same("waiting() for CHARGE", x.waiting(), 1);
        due.same("rest up to the charge", x.rest(639), 0);
        due.same("rest to the charge", x.rest(1), 1);
        due.outputs("coil on", x, Engine.on(24321, 0));
        due.same("running()", x.running(), 1);
        due.same("waiting() for CUT", x.waiting(), 1);
        x.edge(1280);
        due.outputs("spark", x, Engine.off(25601, 0), Engine.on(24321, 0), Engine.closed(18022, 0));
        due.same("running()", x.running(), 0);
        due.same("waiting() without CUT", x.waiting(), 0);
        due.tallies("after a cycle", x, 1, 0, 4, 0);
    }

    private static void advanceMovesChargeAndSpark() {
        ToothWheelTimer x = timer(2, 1, 100000, 100, 0);
        Engine.lockWithTurn(x, 12, 640);
        // cylinder 1 is due at 768 - 100 = 668 and is charged at 604: tooth 9 (576) and its gap
        Engine.turnRound(x, 12, 640);
        due.outputs("cylinder 1", x, Engine.off(10241 + 6680, 1), Engine.on(10241 + 6040, 1), -1);
        // cylinder 0 is due at 1536 - 100 = 1436 and is charged at 1372
        Engine.turnRound(x, 12, 640);
        due.outputs("cylinder 0", x, Engine.off(10241 + 14360, 0), Engine.on(10241 + 13720, 0), Engine.off(10241 + 6680, 1));
        due.tallies("two sparks", x, 2, 0, 4, 0);
        // an advance beyond the cycle: 1536 - 2047 is 1025 before the angle 0 mod 1536
        ToothWheelTimer y = timer(1, 1, 100000, 2047, 0);
        Engine.lockWithTurn(y, 12, 640);
        Engine.turnRound(y, 12, 640);
        Engine.turnRound(y, 12, 640);
        due.outputs("advance of 2047", y, Engine.off(10241 + 10250, 0), Engine.on(10241 + 9610, 0), -1);
    }

    /** A tooth plans what is due up to the next one, and not what is due just there. */
    private static void planningIsByTooth() {
        ToothWheelTimer x = timer(2, 6, 100000, 1, 0);
        // charge of cylinder 1: 768 - 1 - 384 = 383, which is 63 steps after tooth 5 (320)
        Engine.lockWithTurn(x, 12, 640);
        x.teeth(4, 640);
        due.same("waiting() at tooth 4", x.waiting(), 0);
        x.edge(640);
        due.same("waiting() at tooth 5", x.waiting(), 1);
        due.same("rest(629)", x.rest(629), 0);
        due.same("rest(1)", x.rest(1), 1);
        due.outputs("63 steps", x, Engine.on(10241 + 3830, 1));
        ToothWheelTimer y = timer(2, 6, 100000, 0, 0);
        // 384 is 64 steps after tooth 5: not planned there but at tooth 6, whose time it is
        Engine.lockWithTurn(y, 12, 640);
        y.teeth(5, 640);
        due.same("64 steps: waiting() at tooth 5", y.waiting(), 0);
        y.edge(600);
        due.outputs("64 steps: at the edge", y, Engine.on(10241 + 3800, 1), -1);
        // 63 * 101 / 64 is 99.4
        ToothWheelTimer z = timer(2, 6, 100000, 1, 0);
        Engine.lockWithTurn(z, 12, 101);
        z.teeth(5, 101);
        long edge = z.foretell(320);
        z.rest(99);
        due.outputs("rounded down", z, Engine.on(edge + 99, 1), -1);
    }

    private static void gapIsPlannedAtTheLastTooth() {
        // cylinder 1 is due at 768 - a; tooth 9 is at 576, and 191 steps after it is 767
        // 0: CHARGE alone; 1: CHARGE and FIRE; 128, 129: CHARGE has fired, CUT and FIRE wait; then FIRE has fired too
        int[][] cases = {{0, 1}, {1, 2}, {128, 2}, {129, 2}, {192, 0}, {193, 0}};
        for (int[] c : cases) {
            ToothWheelTimer x = timer(2, 1, 100000, c[0], 0);
            Engine.lockWithTurn(x, 12, 640);
            x.teeth(9, 640);
            due.same("lead " + c[0] + ": waiting() at the last tooth", x.waiting(), c[1]);
        }
    }

    /** Speed 200000 / u is x, 7 * L / 4 is y. */
    private static void chartsAreReadWhereTheEngineStands() {
        int[][] cases = {{640, 512}, {640, 600}, {200, 900}, {163, 512}, {150, 16}, {112, 1007}, {111, 333},
            {101, 512}};
        for (int[] c : cases) {
            ToothWheelTimer x = new ToothWheelTimer(12, 1, 1, 100000);
            for (int p = 0; p < 64; p++) {
                x.set(1, p / 8, p % 8, 100 + (p / 8 % 2) * 256 + 5 * (p % 8));
            }
            x.sample(0, c[1]);
            x.sample(1, 300);
            int speed = Math.min(1791, 200000 / c[0]);
            int fuel = x.look(1, speed, 7 * c[1] / 4);
            Engine.lockWithTurn(x, 12, c[0]);
            Engine.turnRound(x, 12, c[0]);
            long start = x.foretell(768);
            due.same("opened", x.output(0), Engine.opened(start, 0));
            x.rest(fuel);
            due.same("unit " + c[0] + ", load " + c[1], x.output(0), Engine.closed(start + fuel, 0));
        }
    }

    private static void chartOfTheFastestWheel() {
        ToothWheelTimer x = new ToothWheelTimer(12, 2, 1, 1);
        for (int p = 48; p < 64; p++) {
            x.set(0, p / 8, p % 8, 1);
        }
        Engine.lockWithTurn(x, 12, 1);
        x.teeth(9, 1);
        // only with the advance of 1 is the FIRE at 768 due within 192 of the last tooth
        due.same("FIRE waits", x.waiting(), 1);
        x.rest(2);
        due.same("FIRE waits no more", x.waiting(), 0);
    }

    private static void amountIsWarmed() {
        // the sample, and the amount of 1000 with it
        int[][] cases = {{16, 1000}, {340, 1000}, {342, 1010}, {512, 1200}, {768, 1550}, {1007, 2160}};
        for (int[] c : cases) {
            ToothWheelTimer x = timer(1, 1, 100000, 0, 1000);
            x.sample(1, 1008);
            x.sample(1, c[0]);
            Engine.lockWithTurn(x, 12, 640);
            Engine.turnRound(x, 12, 640);
            x.rest(c[1]);
            due.same("amount with sample " + c[0], x.output(0), Engine.closed(17921 + c[1], 0));
        }
        ToothWheelTimer y = timer(1, 1, 100000, 0, 99);
        Engine.lockWithTurn(y, 12, 640);
        Engine.turnRound(y, 12, 640);
        y.rest(99);
        due.same("99 * 101 / 100 is rounded down", y.output(0), Engine.closed(17921 + 99, 0));
    }

    private static void noFuelNoOpening() {
        ToothWheelTimer x = timer(1, 1, 100000, 0, 0);
        Engine.lockWithTurn(x, 12, 640);
        Engine.turnRound(x, 12, 640);
        due.same("running() without fuel", x.running(), 0);
        due.same("tally(2) without fuel", x.tally(2), 0);
        due.same("waiting() without fuel", x.waiting(), 0);
    }

    /** An injector that is still open when its OPEN comes again is not opened again, nor closed later. */
    private static void openWhileOpen() {
        ToothWheelTimer x = timer(1, 1, 1, 0, 32000);
        Engine.lockWithTurn(x, 12, 640);
        Engine.turnRound(x, 12, 640);
        due.same("open", x.running(), 256);
        Engine.turnRound(x, 12, 640);
        x.cam();
        Engine.turnRound(x, 12, 640);
        due.same("open still", x.running(), 256);
        due.tallies("coil on and cut in between", x, 0, 1, 3, 0);
        long close = 17921 + 32320;
        Engine.turnRound(x, 12, 640);
        x.cam();
        due.same("time", x.foretell(0), 17921 + 3 * 7680);
        Engine.turnRound(x, 12, 640);
        x.teeth(3, 640);
        due.same("closed", x.running() & 256, 0);
        due.same("when", x.output(0), Engine.closed(close, 0));
    }

    /** A slower wheel brings the CHARGE again though the coil is on: neither a switching nor a later CUT. */
    private static void chargeWhileOn() {
        ToothWheelTimer x = new ToothWheelTimer(12, 2, 6, 3000);
        Engine.level(x, 0, 0);
        Engine.lockWithTurn(x, 12, 640);
        x.teeth(6, 640);
        long start = x.foretell(384);
        due.outputs("on at tooth 6", x, Engine.on(start, 1));
        Engine.level(x, 0, 1472);
        // CHARGE is now due at 768 - 1472 - 384 = 448 (mod 1536), tooth 7, and FIRE at 832
        x.edge(640);
        due.outputs("nothing at tooth 7", x, Engine.on(start, 1), -1);
        due.same("CUT waits", x.waiting(), 1);
        x.teeth(2, 640);
        due.same("on still", x.running(), 2);
        due.same("rest before the cut", x.rest(3000 - 3 * 640 - 1), 0);
        due.same("rest to the cut", x.rest(1), 1);
        due.outputs("cut at its first time", x, Engine.off(start + 3000, 1), Engine.on(start, 1), -1);
        due.tallies("cut", x, 0, 1, 2, 0);
    }

    private static void fireWithoutCharge() {
        ToothWheelTimer x = new ToothWheelTimer(12, 1, 8, 10);
        Engine.lockWithTurn(x, 12, 640);
        Engine.turnRound(x, 12, 640);
        Engine.turnRound(x, 12, 640);
        // cut 10 after the charge; the FIRE that comes later finds the coil off
        due.tallies("no spark after a cut", x, 0, 1, 2, 0);
        due.same("waiting()", x.waiting(), 0);
        due.same("running()", x.running(), 0);
    }

    /** With D just the time from CHARGE to FIRE, the one that was planned first goes first. */
    private static void cutAndFireAtOneTime() {
        ToothWheelTimer x = new ToothWheelTimer(12, 2, 1, 640);
        // both in the gap: FIRE is planned with the edge, CUT only when the CHARGE fires
        Engine.level(x, 0, 64);
        Engine.lockWithTurn(x, 12, 640);
        Engine.turnRound(x, 12, 640);
        due.tallies("FIRE was planned first", x, 1, 0, 2, 0);
        due.outputs("FIRE was planned first", x, Engine.off(10241 + 7040, 1), Engine.on(10241 + 6400, 1), -1);
        ToothWheelTimer y = new ToothWheelTimer(12, 2, 1, 640);
        // CHARGE at tooth 4, FIRE at tooth 5: CUT has been planned a tooth earlier
        Engine.level(y, 0, 448);
        Engine.lockWithTurn(y, 12, 640);
        y.teeth(5, 640);
        due.tallies("CUT was planned first", y, 0, 1, 2, 0);
        due.same("nothing waits", y.waiting(), 0);
    }

    private static void orderOfPlanning() {
        // FIRE of cylinder 0 and CHARGE of cylinder 1 are due at one angle: cylinder 0 is planned first
        ToothWheelTimer x = new ToothWheelTimer(12, 3, 8, 100000);
        Engine.level(x, 0, 40);
        Engine.lockWithTurn(x, 12, 640);
        Engine.turnRound(x, 12, 640);
        Engine.turnRound(x, 12, 640);
        long time = 10241 + 2 * 7680 - 400;
        due.outputs("FIRE 0, then CHARGE 1", x, Engine.on(time, 1), Engine.off(time, 0));
        // OPEN of cylinder 0 and FIRE of cylinder 1 at one angle
        ToothWheelTimer y = timer(2, 1, 100000, 0, 10);
        Engine.lockWithTurn(y, 12, 640);
        Engine.turnRound(y, 12, 640);
        due.outputs("OPEN 0, then FIRE 1", y, Engine.off(17921, 1), Engine.opened(17921, 0));
        // CHARGE, FIRE and OPEN of one cylinder: an earlier time goes before an earlier planning
        ToothWheelTimer z = timer(2, 1, 100000, 32, 10);
        Engine.lockWithTurn(z, 12, 640);
        Engine.turnRound(z, 12, 640);
        due.outputs("CHARGE 1, FIRE 1, OPEN 0", z, Engine.opened(17921, 0), Engine.off(17921 - 320, 1), Engine.on(17921 - 960, 1));
    }

    /** FIRE 1 and CHARGE 3 wait for one time; FIRE 1 is planned again for that time, and so goes behind. */
    private static void plannedAgainIsPlannedLast() {
        for (int again = 0; again < 2; again++) {
            ToothWheelTimer x = new ToothWheelTimer(12, 6, 8, 100000);
            x.sample(0, 0);
            x.sample(0, 0);
            x.sample(0, 0);
            Engine.level(x, 0, 1);
            Engine.lockWithTurn(x, 12, 256);
            Engine.turnRound(x, 12, 256);
            Engine.turnRound(x, 12, 256);
            x.teeth(3, 256);
            due.same("coil 1 is on", x.running() & 2, 2);
            long time = x.foretell(192) + 252;
            if (again == 1) {
                // below the limit of 200 CHARGE is not planned; 192 + 20 * 192 / 64 = 252
                Engine.level(x, 0, 1536 - 20);
                x.edge(192);
            }
            due.same("rest", x.rest(again == 1 ? 60 : 252), 2);
            if (again == 1) {
                due.outputs("CHARGE 3, then FIRE 1", x, Engine.off(time, 1), Engine.on(time, 3));
            } else {
                due.outputs("FIRE 1, then CHARGE 3", x, Engine.on(time, 3), Engine.off(time, 1));
            }
        }
    }

    /** An event planned anew for another time fires only then. */
    private static void planningReplaces() {
        ToothWheelTimer x = new ToothWheelTimer(12, 2, 6, 100000);
        Engine.level(x, 0, 1);
        Engine.lockWithTurn(x, 12, 640);
        x.teeth(5, 640);
        due.same("CHARGE waits", x.waiting(), 1);
        // CHARGE for 383 waits at 10241 + 3830; the next edge comes 300 earlier, where it is due at 448 - 10
        Engine.level(x, 0, 1536 - 54);
        x.edge(330);
        due.same("still one waits", x.waiting(), 1);
        long edge = 10241 + 3200 + 330;
        due.same("rest", x.rest(54 * 330 / 64 - 1), 0);
        due.same("rest(1)", x.rest(1), 1);
        due.outputs("at the new time", x, Engine.on(edge + 54 * 330 / 64, 1), -1);
        x.rest(200);
        due.same("not at the old one too", x.tally(2), 1);
        due.same("coil on", x.running(), 2);
    }

    private static int opensAt(ToothWheelTimer x, int unit) {
        Engine.level(x, 1, 10);
        Engine.lockWithTurn(x, 12, unit);
        Engine.turnRound(x, 12, unit);
        Engine.turnRound(x, 12, unit);
        return x.tally(2);
    }

    private static void limitOfSpeed() {
        due.same("unit 100", opensAt(new ToothWheelTimer(12, 1, 1, 100), 100), 4);
        due.same("unit 99", opensAt(new ToothWheelTimer(12, 1, 1, 100), 99), 0);
        // FIRE is planned all the same: a coil that was charged before the limit sparks
        ToothWheelTimer x = new ToothWheelTimer(12, 1, 8, 100000);
        Engine.lockWithTurn(x, 12, 120);
        Engine.turnRound(x, 12, 120);
        x.teeth(4, 120);
        due.same("coil on", x.running(), 1);
        x.teeth(5, 90);
        due.same("FIRE is not near yet", x.waiting(), 1);
        x.edge(270);
        due.same("spark beyond the limit", x.tally(0), 1);
        x.teeth(9, 90);
        due.same("no more switchings beyond it", x.tally(2), 2);
    }

    private static void limitWithCode() {
        for (int sensor = 0; sensor < 2; sensor++) {
            int[][] cases = {{199, 0}, {200, 4}};
            for (int[] c : cases) {
                ToothWheelTimer x = new ToothWheelTimer(12, 1, 1, 100);
                x.sample(sensor, 0);
                x.sample(sensor, 0);
                x.sample(sensor, 0);
                due.same("code of " + sensor + ", unit " + c[0], opensAt(x, c[0]), c[1]);
            }
            ToothWheelTimer y = new ToothWheelTimer(12, 1, 1, 100);
            y.sample(sensor, 0);
            y.sample(sensor, 0);
            due.same("no code of " + sensor + " at count 2", opensAt(y, 199), 4);
            ToothWheelTimer z = new ToothWheelTimer(12, 1, 1, 100);
            z.sample(sensor, 0);
            z.sample(sensor, 0);
            z.sample(sensor, 0);
            z.clear();
            due.same("code of " + sensor + " cleared", opensAt(z, 199), 4);
            ToothWheelTimer w = new ToothWheelTimer(12, 1, 1, 100);
            w.sample(sensor, 0);
            w.sample(sensor, 0);
            w.sample(sensor, 0);
            w.sample(sensor, 300);
            w.sample(sensor, 300);
            w.sample(sensor, 300);
            due.same("code of " + sensor + " stays when it is well", opensAt(w, 199), 0);
        }
    }

    private static void limitWhenHot() {
        // sample 148 gives 140 - 29 = 111, sample 149 gives 140 - 30 = 110
        int[][] cases = {{148, 199, 0}, {148, 200, 4}, {149, 199, 4}, {149, 100, 4}, {149, 99, 0}};
        for (int[] c : cases) {
            ToothWheelTimer x = new ToothWheelTimer(12, 1, 1, 100);
            x.sample(1, c[0]);
            due.same("heat", x.value(1), c[0] == 148 ? 111 : 110);
            due.same("sample " + c[0] + ", unit " + c[1], opensAt(x, c[1]), c[2]);
        }
    }

    /** Six cylinders in the midst of things: 1472 of charge before each spark, long openings. */
    private static ToothWheelTimer busy() {
        ToothWheelTimer x = new ToothWheelTimer(12, 6, 8, 100000);
        Engine.level(x, 1, 5000);
        Engine.lockWithTurn(x, 12, 640);
        Engine.turnRound(x, 12, 640);
        x.teeth(2, 640);
        return x;
    }

    private static void ceasingSwitchesOff() {
        ToothWheelTimer x = busy();
        // at 896: coil 4 on since 512, coil 5 since 768; coil 3 sparked at 768.
        // openings: cylinder c at 256 * c + 768: cylinder 5 at 512 and cylinder 0 at 768, for 6000 each
        due.same("running()", x.running(), (1 << 4) + (1 << 5) + (256 << 0) + (256 << 5));
        int before = x.tally(2);
        int sparks = x.tally(0);
        due.same("events wait", x.waiting() > 0 ? 1 : 0, 1);
        due.same("bad edge", x.edge(320), ToothWheelTimer.LOST);
        long end = 10241 + 7680 + 1280 + 320;
        due.outputs("switched off", x, Engine.closed(end, 5), Engine.closed(end, 0), Engine.off(end, 5), Engine.off(end, 4));
        due.same("running()", x.running(), 0);
        due.same("waiting()", x.waiting(), 0);
        due.tallies("ceased", x, sparks, 0, before + 4, 1);
        due.same("nothing later", x.rest(10000000), 0);
        ToothWheelTimer y = busy();
        due.same("gap too soon", y.edge(1280), ToothWheelTimer.COUNTING);
        due.same("running()", y.running(), 0);
        due.same("waiting()", y.waiting(), 0);
        ToothWheelTimer z = busy();
        z.teeth(7, 640);
        z.edge(640);
        due.same("gap missed", z.state(), ToothWheelTimer.SEEKING);
        due.same("running()", z.running(), 0);
        due.same("waiting()", z.waiting(), 0);
        due.same("tally(3)", z.tally(3), 1);
    }

    /** After it has ceased to be LOCKED, all goes as with a new timer. */
    private static void nothingStaysAfterCeasing() {
        ToothWheelTimer x = busy();
        x.edge(320);
        ToothWheelTimer y = new ToothWheelTimer(12, 6, 8, 100000);
        Engine.level(y, 1, 5000);
        x.edge(1);
        x.rest(5);
        Engine.lockWithTurn(x, 12, 640);
        Engine.lockWithTurn(y, 12, 640);
        long later = (x.foretell(0) - y.foretell(0)) * 32;
        for (int i = 0; i < 3; i++) {
            Engine.turnRound(x, 12, 640);
            Engine.turnRound(y, 12, 640);
            x.cam();
            y.cam();
            due.same("waiting()", x.waiting(), y.waiting());
            due.same("running()", x.running(), y.running());
            int n = Math.min(16, y.tally(2));
            for (int k = 0; k < n; k++) {
                due.same("output(" + k + ") as of a new timer", x.output(k), y.output(k) + later);
            }
        }
    }

    private static void ceasingAtStalling() {
        ToothWheelTimer x = new ToothWheelTimer(12, 2, 6, 100000);
        Engine.level(x, 1, 5000);
        x.sample(1, 300);
        Engine.lockWithTurn(x, 12, 640);
        x.teeth(6, 640);
        // coil 1 on at 384; the injector of cylinder 1 opened at 0 has closed already
        long edge = x.foretell(384);
        due.same("running()", x.running(), 1 << 1);
        due.same("rest beyond stalling", x.rest(10000), 1);
        due.outputs("off at the time of stalling", x, Engine.off(edge + 3200, 1), Engine.on(edge, 1));
        due.tallies("stalled", x, 0, 0, 2, 1);
        due.same("waiting()", x.waiting(), 0);
        ToothWheelTimer y = new ToothWheelTimer(12, 2, 6, 100000);
        Engine.lockWithTurn(y, 12, 640);
        y.teeth(6, 640);
        y.edge(20000);
        due.outputs("off at the time of stalling, not of the edge", y, Engine.off(edge + 3200, 1), Engine.on(edge, 1));
    }

    /** A CUT at just the time of stalling still counts. */
    private static void eventsAtStalling() {
        int[][] cases = {{3199, 1}, {3200, 1}, {3201, 0}};
        for (int[] c : cases) {
            ToothWheelTimer x = new ToothWheelTimer(12, 2, 6, c[0]);
            Engine.lockWithTurn(x, 12, 640);
            x.teeth(6, 640);
            long edge = x.foretell(384);
            due.same("rest", x.rest(5000), 1);
            due.same("dwell " + c[0] + ": cuts", x.tally(1), c[1]);
            due.outputs("dwell " + c[0], x, Engine.off(edge + Math.min(c[0], 3200), 1), Engine.on(edge, 1), -1);
            due.same("tally(3)", x.tally(3), 1);
        }
    }

    /** What waits fires though the turn is not known any more; nothing new is planned. */
    private static void eventsGoOnWithoutTurn() {
        ToothWheelTimer x = new ToothWheelTimer(12, 2, 6, 3000);
        Engine.lockWithTurn(x, 12, 640);
        Engine.turnRound(x, 12, 640);
        // turn 1; cylinder 0 is charged at 1536 - 384 = 1152, tooth 6
        x.teeth(6, 640);
        due.same("coil 0 on", x.running(), 1);
        x.cam();
        due.same("turn", x.turn(), -1);
        due.same("CUT waits", x.waiting(), 1);
        x.teeth(3, 640);
        x.edge(1920);
        due.same("coil 0 cut", x.running(), 0);
        due.same("cuts, with that of coil 1 in turn 0", x.tally(1), 2);
        int before = x.tally(2);
        Engine.turnRound(x, 12, 640);
        due.same("nothing is planned", x.tally(2), before);
        due.same("nothing waits", x.waiting(), 0);
    }

    private static void restAnswers() {
        ToothWheelTimer x = busy();
        int[] wrong = {-1, 10000001, Integer.MIN_VALUE, Integer.MAX_VALUE};
        long next = x.foretell(896);
        for (int n : wrong) {
            due.same("rest(" + n + ")", x.rest(n), -1);
        }
        due.same("rest(0)", x.rest(0), 0);
        due.same("time stands", x.foretell(896), next);
        due.same("LOCKED", x.state(), ToothWheelTimer.LOCKED);
        // 6000 after 512 the injector of cylinder 5 closes, 6000 after 768 that of cylinder 0; stalling is at 3200
        due.same("rest up to stalling", x.rest(3199), 1);
        due.same("rest to stalling", x.rest(1), 3);
        due.same("rest(10000000)", x.rest(10000000), 0);
        ToothWheelTimer y = new ToothWheelTimer(12, 1, 1, 1);
        y.rest(10000000);
        y.rest(0);
        y.sample(0, 0);
        y.sample(0, 0);
        y.sample(0, 0);
        due.same("the time goes on by n", y.frame(0, 0), 10000000);
    }

    private static void outputsKept() {
        ToothWheelTimer x = timer(1, 1, 100000, 0, 10);
        Engine.lockWithTurn(x, 12, 640);
        long cycle = 2 * 7680;
        for (int i = 0; i < 5; i++) {
            due.same("switchings", x.tally(2), 4 * i);
            due.same("no output yet", x.output(4 * i), -1);
            x.cam();
            Engine.turnRound(x, 12, 640);
            Engine.turnRound(x, 12, 640);
        }
        for (int k = 0; k < 16; k++) {
            long start = 10241 + (4 - k / 4) * cycle;
            long[] want = {Engine.off(start + cycle, 0), Engine.on(start + cycle - 640, 0), Engine.closed(start + 7690, 0),
                Engine.opened(start + 7680, 0)};
            due.same("output(" + k + ")", x.output(k), want[k % 4]);
        }
        due.same("output(16)", x.output(16), -1);
        due.tallies("five cycles", x, 5, 0, 20, 0);
    }

    private static void wrongNumbers() {
        ToothWheelTimer x = busy();
        int[] tallies = {-1, 4, Integer.MIN_VALUE, Integer.MAX_VALUE};
        for (int k : tallies) {
            due.same("tally(" + k + ")", x.tally(k), -1);
        }
        int[] outputs = {-1, 16, Integer.MIN_VALUE, Integer.MAX_VALUE};
        for (int k : outputs) {
            due.same("output(" + k + ")", x.output(k), -1);
        }
    }
}
