/** The sentences under "PLANNING" that name a bound: at it and at the first number beyond. */
public final class PlanBoundsTest {
    private static final long START = Engine.START;
    private static final Due due = new Due();

    public static void main(String[] args) {
        onlyWithTheTurnKnown();
        notByTheCam();
        notWhenTheTurnIsLost();
        atTheEdgeThatBeginsATurn();
        cylindersAreRoundedDown();
        leadBeyondTheCycle();
        chargeBelowMinusTheCycle();
        openingBeyondTheCycle();
        fireWithinATooth();
        fireWithinTheGap();
        chargeWithinATooth();
        chargeWithinTheGap();
        openWithinATooth();
        openWithinTheGap();
        plannedTimeIsRoundedDown();
        plannedForNow();
        farTimes();
        limit();
        limitIsOfTheUnitAfterTheEdge();
        limitWithACode();
        limitOfACodeThatIsCleared();
        limitWhenHot();
        fireHasNoLimit();
        due.end();
    }

    private static void onlyWithTheTurnKnown() {
        due.sentence("PLANNING is done at each edge after which it is LOCKED with the turn known");
        ToothWheelTimer x = Engine.timer(6, 8, 100000, 1, 100);
        Engine.count(x, 640);
        x.teeth(9, 640);
        due.same("COUNTING: waiting()", x.waiting(), 0);
        x.edge(1920);
        for (int i = 0; i < 2; i++) {
            for (int tooth = 1; tooth <= 9; tooth++) {
                x.edge(640);
                due.same("turn not known: waiting() at tooth " + tooth, x.waiting(), 0);
            }
            x.edge(1920);
        }
        due.same("turn not known: tally(2)", x.tally(2), 0);
        x.cam();
        x.teeth(3, 640);
        due.same("turn known: FIRE and CHARGE at 255", x.waiting(), 2);
    }

    /** OPEN of cylinder 1 is due at the angle 0, where the wheel stands. */
    private static void notByTheCam() {
        due.sentence("at each edge: not at a cam edge");
        ToothWheelTimer x = Engine.timer(2, 1, 100000, 0, 100);
        Engine.lockWithTurn(x, 12, 640);
        due.same("turn()", x.turn(), 0);
        due.same("running()", x.running(), 0);
        due.same("waiting()", x.waiting(), 0);
        due.same("nothing in the first tooth", x.rest(640), 0);
    }

    private static void notWhenTheTurnIsLost() {
        due.sentence("after which it is LOCKED with the turn known: not when it is not known any more");
        ToothWheelTimer x = Engine.timer(1, 1, 100000, 0, 100);
        Engine.lockWithTurn(x, 12, 640);
        Engine.turnRound(x, 12, 640);
        Engine.turnRound(x, 12, 640);
        int before = x.tally(2);
        Engine.turnRound(x, 12, 640);
        due.same("turn() without a cam edge in turn 0", x.turn(), -1);
        due.same("no OPEN at its end", x.tally(2), before);
        ToothWheelTimer y = Engine.timer(1, 1, 100000, 0, 100);
        Engine.lockWithTurn(y, 12, 640);
        Engine.turnRound(y, 12, 640);
        y.cam();
        y.rest(100);
        int soon = y.tally(2);
        Engine.turnRound(y, 12, 640);
        due.same("no CHARGE and no FIRE after a cam edge in turn 1", y.tally(2), soon);
    }

    private static void atTheEdgeThatBeginsATurn() {
        due.sentence("A the tooth's angle (all as they are after the edge)");
        ToothWheelTimer x = Engine.timer(2, 1, 100000, 0, 100);
        Engine.lockWithTurn(x, 12, 640);
        x.teeth(9, 640);
        x.edge(1800);
        // the unit is 600 after that edge, and the angle 768: OPEN 0 and FIRE 1 are due there
        due.outputs("turn 1", x, Engine.off(START + 5760 + 1800, 1), Engine.opened(START + 5760 + 1800, 0));
        x.teeth(9, 600);
        x.edge(1800);
        long next = START + 5760 + 1800 + 7200;
        due.outputs("turn 0", x, Engine.opened(next, 1), Engine.off(next, 0));
    }

    private static void cylindersAreRoundedDown() {
        due.sentence("for each cylinder c in rising order, with T = c * C / K");
        // the positions, then the angle of each cylinder
        int[][] cases = {{12, 0}, {12, 0, 768}, {12, 0, 512, 1024}, {12, 0, 384, 768, 1152},
            {12, 0, 307, 614, 921, 1228}, {12, 0, 256, 512, 768, 1024, 1280}, {13, 0, 554, 1109}, {13, 0, 416, 832, 1248},
            {13, 0, 332, 665, 998, 1331}, {13, 0, 277, 554, 832, 1109, 1386}, {60, 0, 1536, 3072, 4608, 6144},
            {59, 0, 1510, 3020, 4531, 6041}};
        for (int[] c : cases) {
            int p = c[0];
            int k = c.length - 1;
            ToothWheelTimer x = new ToothWheelTimer(p, k, 1, 100000);
            Engine.lockWithTurn(x, p, 640);
            Engine.turnRound(x, p, 640);
            Engine.turnRound(x, p, 640);
            long start = 1 + (p + 4) * 640L;
            for (int i = 0; i < k; i++) {
                int cylinder = (k - i) % k;
                long spark = start + 10 * (cylinder == 0 ? 128 * p : c[1 + cylinder]);
                String name = "P = " + p + ", K = " + k + ", cylinder " + cylinder;
                due.same(name + ": spark", x.output(2 * i), Engine.off(spark, cylinder));
                due.same(name + ": coil on", x.output(2 * i + 1), Engine.on(spark - 640, cylinder));
            }
            due.same("P = " + p + ", K = " + k + ": switchings", x.tally(2), 2 * k);
        }
    }

    private static void leadBeyondTheCycle() {
        due.sentence("FIRE is due at the angle T - a (mod C)");
        // the advance, and the angle of the spark; the coil goes on 64 before
        int[][] cases = {{0, 1536}, {1, 1535}, {1471, 65 + 1536}, {1472, 64 + 1536}, {1535, 1 + 1536}, {1536, 1536},
            {1537, 1535}, {2046, 1026}, {2047, 1025}};
        for (int[] c : cases) {
            ToothWheelTimer x = Engine.timer(1, 1, 100000, c[0], 0);
            Engine.lockWithTurn(x, 12, 640);
            Engine.turnRound(x, 12, 640);
            Engine.turnRound(x, 12, 640);
            x.teeth(2, 640);
            long spark = START + 10 * c[1];
            due.outputs("a = " + c[0], x, Engine.off(spark, 0), Engine.on(spark - 640, 0), -1);
        }
    }

    private static void chargeBelowMinusTheCycle() {
        due.sentence("CHARGE at T - a - 64 * Q (mod C)");
        // the charge, the advance, and the angles of CHARGE and FIRE: 0 - 2047 - 512 = -2559 = 513 - 2 * 1536
        int[][] cases = {{8, 2047, 513, 1025}, {8, 1024, 0, 512}, {8, 1023, 1, 513}, {8, 1025, 1535, 511 + 1536},
            {1, 2047, 961, 1025}, {1, 1471, 1, 65}, {1, 1472, 0, 64}};
        for (int[] c : cases) {
            ToothWheelTimer x = Engine.timer(1, c[0], 100000, c[1], 0);
            Engine.lockWithTurn(x, 12, 640);
            for (int i = 0; i < 2; i++) {
                Engine.turnRound(x, 12, 640);
                Engine.turnRound(x, 12, 640);
                x.cam();
            }
            x.teeth(1, 640);
            // in the first cycle an angle below 64 is missed, as nothing is planned before tooth 1
            long first = c[2] < 64 ? 15360 : 0;
            String name = "Q = " + c[0] + ", a = " + c[1];
            int k = x.tally(2) - 1;
            due.same(name + ": CHARGE", x.output(k), Engine.on(START + first + 10 * c[2], 0));
            due.same(name + ": FIRE", x.output(k - 1), Engine.off(START + first + 10 * c[3], 0));
        }
    }

    private static void openingBeyondTheCycle() {
        due.sentence("OPEN at T + C / 2 (all mod C)");
        ToothWheelTimer x = Engine.timer(2, 1, 100000, 0, 100);
        Engine.lockWithTurn(x, 12, 640);
        Engine.turnRound(x, 12, 640);
        due.same("768: running()", x.running(), 256);
        Engine.turnRound(x, 12, 640);
        due.same("768 + 768 is the angle 0: running()", x.running(), 512);
        due.outputs("768 + 768", x, Engine.opened(START + 15360, 1));
        ToothWheelTimer y = Engine.timer(5, 1, 100000, 0, 100);
        Engine.lockWithTurn(y, 12, 640);
        y.teeth(2, 640);
        // 921 + 768 - 1536 = 153, which is 25 after tooth 2
        due.same("921 + 768: rest(249)", y.rest(249), 0);
        due.same("921 + 768: rest(1)", y.rest(1), 1);
        due.outputs("921 + 768", y, Engine.opened(START + 1530, 3));
    }

    /** With the unit 64, which is below the LIMIT, FIRE alone is planned, and a step takes the time 1. */
    private static ToothWheelTimer fireAlone(int p, int turn, int tooth, int steps) {
        ToothWheelTimer x = new ToothWheelTimer(p, 1, 1, 1);
        int angle = (turn * p + tooth) * 64 + steps;
        int lead = Math.floorMod(-angle, 128 * p);
        for (int j = 3; j < 5; j++) {
            x.set(0, 6, j, lead);
            x.set(0, 7, j, lead);
        }
        Engine.lockWithTurn(x, p, 64);
        if (turn == 1) {
            Engine.turnRound(x, p, 64);
        }
        x.teeth(tooth, 64);
        return x;
    }

    private static void fireWithinATooth() {
        due.sentence("is due at an angle E with (E - A) mod C below 64: FIRE");
        for (int turn = 0; turn < 2; turn++) {
            for (int tooth : new int[] {1, 5, 8}) {
                String name = "turn " + turn + ", tooth " + tooth;
                for (int steps : new int[] {1, 62, 63}) {
                    ToothWheelTimer x = fireAlone(12, turn, tooth, steps);
                    due.same(name + ", " + steps + ": waiting()", x.waiting(), 1);
                    x.rest(steps - 1);
                    due.same(name + ", " + steps + ": waiting() before", x.waiting(), 1);
                    x.rest(1);
                    due.same(name + ", " + steps + ": waiting() after", x.waiting(), 0);
                }
                for (int steps : new int[] {64, 65, 191, 192, -1}) {
                    due.same(name + ", " + steps + ": waiting()", fireAlone(12, turn, tooth, steps).waiting(), 0);
                }
            }
        }
    }

    private static void fireWithinTheGap() {
        due.sentence("(below 192 when the tooth is P - 3): FIRE");
        for (int turn = 0; turn < 2; turn++) {
            for (int steps : new int[] {1, 63, 64, 190, 191}) {
                ToothWheelTimer x = fireAlone(12, turn, 9, steps);
                due.same("turn " + turn + ", " + steps + ": waiting()", x.waiting(), 1);
                x.rest(steps - 1);
                due.same("turn " + turn + ", " + steps + ": waiting() before", x.waiting(), 1);
                x.rest(1);
                due.same("turn " + turn + ", " + steps + ": waiting() after", x.waiting(), 0);
            }
            for (int steps : new int[] {192, 193, -1}) {
                due.same("turn " + turn + ", " + steps + ": waiting()", fireAlone(12, turn, 9, steps).waiting(), 0);
            }
        }
        // with 14 positions the tooth 11 is P - 3, and 9 and 10 are teeth as others
        int[][] cases = {{9, 63, 1}, {9, 64, 0}, {10, 63, 1}, {10, 64, 0}, {11, 64, 1}, {11, 191, 1}, {11, 192, 0}};
        for (int[] c : cases) {
            due.same("P = 14, tooth " + c[0] + ", " + c[1], fireAlone(14, 1, c[0], c[1]).waiting(), c[2]);
        }
    }

    /** CHARGE of the one cylinder is due so many steps after a tooth of turn 1, and FIRE 64 later. */
    private static ToothWheelTimer chargeAt(int tooth, int steps) {
        ToothWheelTimer x = Engine.timer(1, 1, 100000, Math.floorMod(-(768 + 64 * tooth + steps + 64), 1536), 0);
        Engine.lockWithTurn(x, 12, 640);
        Engine.turnRound(x, 12, 640);
        x.teeth(tooth, 640);
        return x;
    }

    private static void chargeWithinATooth() {
        due.sentence("is due at an angle E with (E - A) mod C below 64: CHARGE");
        for (int tooth : new int[] {1, 5, 8}) {
            long edge = START + 7680 + 640 * tooth;
            ToothWheelTimer x = chargeAt(tooth, 0);
            due.outputs("tooth " + tooth + ", 0", x, Engine.on(edge, 0), -1);
            ToothWheelTimer y = chargeAt(tooth, 63);
            due.same("tooth " + tooth + ", 63: waiting()", y.waiting(), 1);
            y.rest(630);
            due.outputs("tooth " + tooth + ", 63", y, Engine.on(edge + 630, 0), -1);
            ToothWheelTimer z = chargeAt(tooth, 64);
            due.same("tooth " + tooth + ", 64: waiting()", z.waiting(), 0);
            due.same("tooth " + tooth + ", 64: rest(640)", z.rest(640), 0);
        }
    }

    private static void chargeWithinTheGap() {
        due.sentence("(below 192 when the tooth is P - 3): CHARGE");
        long edge = START + 7680 + 5760;
        int[] near = {64, 128, 191};
        for (int steps : near) {
            ToothWheelTimer x = chargeAt(9, steps);
            // FIRE, 64 later, is within the gap with the first of them alone
            due.same(steps + ": waiting()", x.waiting(), steps == 64 ? 2 : 1);
            due.same(steps + ": rest before", x.rest(10 * steps - 1), 0);
            due.same(steps + ": rest(1)", x.rest(1), 1);
            due.outputs(steps + "", x, Engine.on(edge + 10 * steps, 0), -1);
        }
        ToothWheelTimer y = chargeAt(9, 192);
        due.same("192: waiting()", y.waiting(), 0);
        due.same("192: rest(1920)", y.rest(1920), 0);
    }

    private static void openWithinATooth() {
        due.sentence("is due at an angle E with (E - A) mod C below 64: OPEN");
        // five cylinders: OPEN 4 is due at 1228 + 768 - 1536 = 460, which is 12 after tooth 7, and OPEN 1 at 1075
        ToothWheelTimer x = Engine.timer(5, 1, 100000, 0, 100);
        Engine.lockWithTurn(x, 12, 640);
        x.teeth(6, 640);
        due.same("76 before: waiting()", x.waiting(), 0);
        x.edge(640);
        due.same("12 before: waiting()", x.waiting(), 1);
        due.same("12 before: rest(119)", x.rest(119), 0);
        due.same("12 before: rest(1)", x.rest(1), 1);
        due.outputs("12 before", x, Engine.opened(START + 4600, 4));
        // four cylinders: OPEN 3 is due at 1152 + 768 - 1536 = 384, tooth 6, which is 64 after tooth 5
        ToothWheelTimer y = Engine.timer(4, 1, 100000, 100, 100);
        Engine.lockWithTurn(y, 12, 640);
        y.teeth(5, 640);
        due.same("64 before: waiting()", y.waiting(), 0);
        y.edge(600);
        due.outputs("0 before", y, Engine.opened(START + 3200 + 600, 3));
    }

    private static void openWithinTheGap() {
        due.sentence("(below 192 when the tooth is P - 3): OPEN");
        // five cylinders: OPEN 2 is due at 1382, which is 38 after the last tooth of turn 1
        ToothWheelTimer x = Engine.timer(5, 1, 100000, 400, 100);
        Engine.lockWithTurn(x, 12, 640);
        Engine.turnRound(x, 12, 640);
        x.teeth(9, 640);
        x.rest(379);
        due.same("38 before: running()", x.running() & 256 << 2, 0);
        x.rest(1);
        due.outputs("38 before", x, Engine.opened(START + 13820, 2));
        // one cylinder: OPEN at 768 is 192 after the last tooth of turn 0
        ToothWheelTimer y = Engine.timer(1, 1, 100000, 400, 100);
        Engine.lockWithTurn(y, 12, 640);
        y.teeth(9, 640);
        due.same("192 before: waiting()", y.waiting(), 0);
        due.same("192 before: rest(1920)", y.rest(1920), 0);
    }

    private static void plannedTimeIsRoundedDown() {
        due.sentence("is planned for the time t + ((E - A) mod C) * u / 64, rounded down");
        // units below the LIMIT plan FIRE alone: 63 * 65 / 64 = 63.98, 63 * 1 / 64 = 0.98, 63 * 2 / 64 = 1.97
        int[][] cases = {{65, 63, 63}, {66, 63, 64}, {2, 63, 1}, {2, 33, 1}, {3, 22, 1}, {99, 63, 97}};
        for (int[] c : cases) {
            ToothWheelTimer x = firePlanned(c[0], c[1]);
            due.same("u = " + c[0] + ", " + c[1] + " steps: waiting()", x.waiting(), 1);
            x.rest(c[2] - 1);
            due.same("u = " + c[0] + ", " + c[1] + " steps: waiting() before", x.waiting(), 1);
            x.rest(1);
            due.same("u = " + c[0] + ", " + c[1] + " steps: waiting() then", x.waiting(), 0);
        }
    }

    /** FIRE is due so many steps after tooth 5 of turn 0. */
    private static ToothWheelTimer firePlanned(int u, int steps) {
        ToothWheelTimer x = new ToothWheelTimer(12, 1, 1, 1);
        Engine.level(x, 0, 1536 - 320 - steps);
        Engine.lockWithTurn(x, 12, u);
        x.teeth(5, u);
        return x;
    }

    private static void plannedForNow() {
        due.sentence("Thereafter events whose time has come fire");
        // the unit, the steps, and whether it waits: 63 * 1 / 64 and 1 * 63 / 64 are 0, 1 * 64 / 64 is 1
        int[][] cases = {{64, 0, 0}, {64, 1, 1}, {63, 1, 0}, {63, 2, 1}, {1, 63, 0}, {2, 31, 0}, {2, 32, 1}};
        for (int[] c : cases) {
            due.same("u = " + c[0] + ", " + c[1] + " steps: waiting()", firePlanned(c[0], c[1]).waiting(), c[2]);
        }
        ToothWheelTimer x = chargeAt(3, 0);
        due.same("CHARGE at the tooth: running()", x.running(), 1);
        due.same("its CUT waits", x.waiting(), 1);
    }

    /** Products and times that an int would not hold. */
    private static void farTimes() {
        due.sentence("t + ((E - A) mod C) * u / 64: with great numbers");
        ToothWheelTimer x = new ToothWheelTimer(12, 1, 1, 1);
        Engine.level(x, 0, 1537);
        x.edge(1);
        slowEdge(x, 1);
        slowEdge(x, 3);
        for (int i = 0; i < 9; i++) {
            slowEdge(x, 1);
        }
        slowEdge(x, 3);
        x.cam();
        for (int i = 0; i < 9; i++) {
            slowEdge(x, 1);
        }
        slowEdge(x, 3);
        for (int i = 0; i < 9; i++) {
            slowEdge(x, 1);
        }
        long u = 20000000;
        due.same("unit()", x.unit(), u);
        due.same("tooth()", x.tooth(), 9);
        // CHARGE is 127 and FIRE 191 after the last tooth: 191 * 20000000 = 3820000000
        due.same("waiting()", x.waiting(), 2);
        for (int i = 0; i < 3; i++) {
            x.rest(10000000);
        }
        due.same("rest to the CHARGE", x.rest((int) (127 * u / 64 - 3 * u / 2) - 1), 0);
        due.same("CHARGE", x.rest(1), 1);
        long edge = 1 + 16 * u + 12 * u + 9 * u;
        due.outputs("CHARGE", x, Engine.on(edge + 127 * u / 64, 0));
        due.same("CUT after it", x.rest(1), 1);
        x.rest(10000000);
        due.same("FIRE waits still", x.waiting(), 1);
        x.rest((int) (u - 10000000 - 2));
        due.same("FIRE waits still, one before", x.waiting(), 1);
        x.rest(1);
        due.same("FIRE", x.waiting(), 0);
    }

    private static void slowEdge(ToothWheelTimer x, int units) {
        for (int i = 0; i < 2 * units - 1; i++) {
            x.rest(10000000);
        }
        x.rest(9000000);
        x.edge(1000000);
    }

    /** Injector opened and closed, coil on and off: 4 where all of them are planned. */
    private static int switchingsInACycle(ToothWheelTimer x, int u) {
        Engine.level(x, 1, 10);
        Engine.lockWithTurn(x, 12, u);
        Engine.turnRound(x, 12, u);
        Engine.turnRound(x, 12, u);
        return x.tally(2);
    }

    private static ToothWheelTimer plain() {
        return new ToothWheelTimer(12, 1, 1, 100000);
    }

    private static void limit() {
        due.sentence("CHARGE and OPEN are not when u is below the LIMIT, which is 100");
        int[][] cases = {{1, 0}, {98, 0}, {99, 0}, {100, 4}, {101, 4}};
        for (int[] c : cases) {
            due.same("u = " + c[0], switchingsInACycle(plain(), c[0]), c[1]);
        }
    }

    private static void limitIsOfTheUnitAfterTheEdge() {
        due.sentence("u the unit (as it is after the edge)");
        // OPEN is due at the end of the gap: 299 / 3 = 99, 300 / 3 = 100, whatever the unit was before
        int[][] cases = {{90, 299, 0}, {90, 300, 256}, {110, 299, 0}, {110, 300, 256}, {110, 302, 256}};
        for (int[] c : cases) {
            ToothWheelTimer x = plain();
            Engine.level(x, 1, 10);
            Engine.lockWithTurn(x, 12, c[0]);
            x.teeth(9, c[0]);
            x.edge(c[1]);
            due.same("unit " + c[0] + ", then a gap of " + c[1] + ": running()", x.running(), c[2]);
        }
    }

    private static void limitWithACode() {
        due.sentence("or 200 when a code is stored");
        for (int sensor = 0; sensor < 2; sensor++) {
            int[][] cases = {{2, 99, 0}, {2, 100, 4}, {2, 199, 4}, {3, 100, 0}, {3, 199, 0}, {3, 200, 4}, {6, 199, 0}};
            for (int[] c : cases) {
                ToothWheelTimer x = plain();
                Engine.fail(x, sensor, c[0]);
                due.same(c[0] + " failing samples, u = " + c[1], switchingsInACycle(x, c[1]), c[2]);
            }
            ToothWheelTimer y = plain();
            Engine.fail(y, sensor, 3);
            y.sample(sensor, 300);
            y.sample(sensor, 300);
            y.sample(sensor, 300);
            due.same("count", y.count(sensor), 0);
            due.same("a code whose sensor is well again, u = 199", switchingsInACycle(y, 199), 0);
        }
    }

    private static void limitOfACodeThatIsCleared() {
        due.sentence("or 200 when a code is stored: not when it was cleared");
        for (int sensor = 0; sensor < 2; sensor++) {
            int[][] cases = {{99, 0}, {100, 4}};
            for (int[] c : cases) {
                ToothWheelTimer x = plain();
                Engine.fail(x, sensor, 6);
                x.clear();
                due.same("cleared, u = " + c[0], switchingsInACycle(x, c[0]), c[1]);
            }
        }
    }

    private static void limitWhenHot() {
        due.sentence("or H is above 110");
        // the sample, the heat that it gives, the unit, and the switchings
        int[][] cases = {{147, 111, 199, 0}, {148, 111, 199, 0}, {148, 111, 200, 4}, {149, 110, 199, 4}, {149, 110, 100, 4},
            {149, 110, 99, 0}, {16, 136, 199, 0}, {16, 136, 200, 4}};
        for (int[] c : cases) {
            ToothWheelTimer x = plain();
            x.sample(1, c[0]);
            due.same("heat of " + c[0], x.value(1), c[1]);
            due.same("sample " + c[0] + ", u = " + c[2], switchingsInACycle(x, c[2]), c[3]);
        }
    }

    private static void fireHasNoLimit() {
        due.sentence("but CHARGE and OPEN are not: FIRE is");
        for (int u : new int[] {99, 100}) {
            ToothWheelTimer x = new ToothWheelTimer(12, 1, 8, 100000);
            Engine.lockWithTurn(x, 12, 110);
            Engine.turnRound(x, 12, 110);
            x.teeth(4, 110);
            due.same("coil on", x.running(), 1);
            x.teeth(5, u);
            due.same("coil on still", x.running(), 1);
            x.edge(3 * u);
            due.same("u = " + u + ": spark", x.tally(0), 1);
            due.same("u = " + u + ": running()", x.running(), 0);
        }
    }
}
