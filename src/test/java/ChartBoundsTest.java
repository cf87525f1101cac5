/** The sentences under "CHARTS" that name a bound: at it and at the first number beyond. */
public final class ChartBoundsTest {
    private static final Due due = new Due();

    public static void main(String[] args) {
        allZeroAtFirst();
        pointsOfTheCorners();
        placesAtTheEnds();
        placesAtTheCells();
        halvesAreRoundedUp();
        greatestValues();
        speedAtMost();
        speedOfASlowWheel();
        speedIsRoundedDown();
        leadOfTheFastestWheel();
        loadAtTheEnds();
        loadIsRoundedDown();
        loadOfAFailedSensor();
        enrichmentBelowEighty();
        enrichmentOfTheColdest();
        enrichmentOfAFailedSensor();
        amountIsRoundedDown();
        due.end();
    }

    private static ToothWheelTimer fresh() {
        return new ToothWheelTimer(12, 1, 1, 100000);
    }

    private static void allZeroAtFirst() {
        due.sentence("values at points (i, j), i and j from 0 to 7, at first all 0");
        for (int chart = 0; chart < 2; chart++) {
            ToothWheelTimer x = fresh();
            for (int n = 0; n < 64; n++) {
                int at = Math.min(1791, n / 8 * 256);
                int to = Math.min(1791, n % 8 * 256);
                due.same("look(" + chart + ", " + at + ", " + to + ")", x.look(chart, at, to), 0);
            }
        }
    }

    private static void pointsOfTheCorners() {
        due.sentence("i and j from 0 to 7");
        // the point, the place nearest to it, and what its value of 2000 gives there
        int[][] cases = {{0, 0, 0, 0, 2000}, {0, 7, 0, 1791, 1992}, {7, 0, 1791, 0, 1992}, {7, 7, 1791, 1791, 1984}};
        for (int chart = 0; chart < 2; chart++) {
            for (int[] c : cases) {
                ToothWheelTimer x = fresh();
                due.yes("set(" + chart + ", " + c[0] + ", " + c[1] + ")", x.set(chart, c[0], c[1], 2000));
                for (int[] other : cases) {
                    int want = other == c ? c[4] : 0;
                    due.same("point (" + c[0] + ", " + c[1] + "), look(" + other[2] + ", " + other[3] + ")",
                        x.look(chart, other[2], other[3]), want);
                }
            }
        }
    }

    /** The chart that has the value 100 * i + j at every point. */
    private static ToothWheelTimer slope() {
        ToothWheelTimer x = fresh();
        for (int n = 0; n < 64; n++) {
            x.set(1, n / 8, n % 8, 100 * (n / 8) + n % 8);
        }
        return x;
    }

    private static void placesAtTheEnds() {
        due.sentence("The value at (x, y), both 0 .. 1791");
        ToothWheelTimer x = slope();
        due.same("look(1, 0, 0)", x.look(1, 0, 0), 0);
        due.same("look(1, 1, 0)", x.look(1, 1, 0), 0);
        // 600 + 100 * 255 / 256 = 699.6, and 6 + 255 / 256 = 6.996
        due.same("look(1, 1791, 0)", x.look(1, 1791, 0), 700);
        due.same("look(1, 0, 1791)", x.look(1, 0, 1791), 7);
        due.same("look(1, 1791, 1791)", x.look(1, 1791, 1791), 707);
        due.same("look(1, 1790, 1791)", x.look(1, 1790, 1791), 706);
        due.same("look(1, 1792, 0)", x.look(1, 1792, 0), -1);
        due.same("look(1, 0, 1792)", x.look(1, 0, 1792), -1);
        due.same("look(1, -1, 0)", x.look(1, -1, 0), -1);
        due.same("look(1, 0, -1)", x.look(1, 0, -1), -1);
    }

    private static void placesAtTheCells() {
        due.sentence("i = x / 256, f = x - 256 * i, j = y / 256, g = y - 256 * j");
        ToothWheelTimer x = slope();
        for (int i = 1; i < 7; i++) {
            // 100 / 256 = 0.39 off the point is rounded to it, 200 / 256 = 0.78 is not
            due.same("x one before point " + i, x.look(1, 256 * i - 1, 0), 100 * i);
            due.same("x two before point " + i, x.look(1, 256 * i - 2, 0), 100 * i - 1);
            due.same("x at point " + i, x.look(1, 256 * i, 0), 100 * i);
            due.same("x one beyond point " + i, x.look(1, 256 * i + 1, 0), 100 * i);
            due.same("x two beyond point " + i, x.look(1, 256 * i + 2, 0), 100 * i + 1);
            due.same("y half before point " + i, x.look(1, 0, 256 * i - 129), i - 1);
            due.same("y at point " + i, x.look(1, 0, 256 * i), i);
            due.same("y half beyond point " + i, x.look(1, 0, 256 * i + 127), i);
        }
    }

    private static void halvesAreRoundedUp() {
        due.sentence("+ 32768) / 65536, rounded down");
        for (int chart = 0; chart < 2; chart++) {
            ToothWheelTimer x = fresh();
            x.set(chart, 0, 0, 1);
            due.same("32768 + 32768", x.look(chart, 128, 0), 1);
            due.same("32768 + 32768 the other way", x.look(chart, 0, 128), 1);
            due.same("32512 + 32768", x.look(chart, 129, 0), 0);
            due.same("32512 + 32768 the other way", x.look(chart, 0, 129), 0);
            // (256 - 64) * (256 - 85) = 192 * 171 = 32832, and 192 * 170 = 32640
            due.same("32832 + 32768", x.look(chart, 64, 85), 1);
            due.same("32640 + 32768", x.look(chart, 64, 86), 0);
        }
    }

    private static void greatestValues() {
        due.sentence("exactly calculated");
        int[] most = {2047, 32000};
        for (int chart = 0; chart < 2; chart++) {
            ToothWheelTimer x = fresh();
            Engine.level(x, chart, most[chart]);
            for (int at : new int[] {0, 1, 128, 255, 256, 1663, 1790, 1791}) {
                due.same("chart " + chart + " at " + at, x.look(chart, at, 1791 - at), most[chart]);
            }
        }
    }

    /** How long the injector is open that opens at the beginning of turn 1; 0 when it does not open. */
    private static int opening(ToothWheelTimer x, int u) {
        Engine.lockWithTurn(x, 12, u);
        Engine.turnRound(x, 12, u);
        long start = 1 + 28L * u;
        if (x.running() != 256) {
            return 0;
        }
        due.same("opened at the angle C / 2", x.output(0), Engine.opened(start, 0));
        x.rest(5 * u - 1);
        return (int) (x.output(0) / 32 - start);
    }

    /** A timer whose fuel depends on the speed alone, and that needs no more of it for being cold. */
    private static ToothWheelTimer fuelBySpeed(int... values) {
        ToothWheelTimer x = fresh();
        for (int n = 0; n < 64; n++) {
            x.set(1, n / 8, n % 8, values[n / 8]);
        }
        x.sample(1, 300);
        return x;
    }

    private static void speedAtMost() {
        due.sentence("x = 200000 / unit, but at most 1791");
        // 200000 / 112 = 1785, 200000 / 111 = 1801: the values there are x - 1536
        int[][] cases = {{113, 233}, {112, 249}, {111, 255}, {110, 255}, {100, 255}};
        for (int[] c : cases) {
            ToothWheelTimer x = fuelBySpeed(0, 0, 0, 0, 0, 0, 0, 256);
            due.same("amount with the unit " + c[0], opening(x, c[0]), c[1]);
        }
    }

    private static void speedOfASlowWheel() {
        due.sentence("x = 200000 / unit, down to 0");
        int[][] cases = {{100000, 2}, {100001, 1}, {200000, 1}, {200001, 0}, {333333, 0}};
        for (int[] c : cases) {
            ToothWheelTimer x = fuelBySpeed(0, 256, 256, 256, 256, 256, 256, 256);
            due.same("amount with the unit " + c[0], opening(x, c[0]), c[1]);
        }
    }

    private static void speedIsRoundedDown() {
        due.sentence("all divisions are rounded down: 200000 / unit");
        // the values are x itself: 781.25, 778.2, 512.8, 511.5
        int[][] cases = {{256, 781}, {257, 778}, {390, 512}, {391, 511}};
        for (int[] c : cases) {
            ToothWheelTimer x = fuelBySpeed(0, 256, 512, 768, 1024, 1280, 1536, 1792);
            due.same("amount with the unit " + c[0], opening(x, c[0]), c[1]);
        }
    }

    /** FIRE is planned for every speed: only with the advance of 1 it is due 191 after the last tooth, not 192. */
    private static void leadOfTheFastestWheel() {
        due.sentence("x = 200000 / unit, but at most 1791: chart 0 with the least units");
        for (int u : new int[] {1, 2, 50, 99}) {
            for (int lead = 0; lead < 2; lead++) {
                ToothWheelTimer x = new ToothWheelTimer(12, 2, 1, 1);
                for (int j = 0; j < 8; j++) {
                    x.set(0, 6, j, lead);
                    x.set(0, 7, j, lead);
                }
                Engine.lockWithTurn(x, 12, u);
                x.teeth(9, u);
                due.same("unit " + u + ", lead " + lead + ": waiting()", x.waiting(), lead);
            }
        }
    }

    /** A timer whose fuel is y, and that needs no more of it for being cold. */
    private static ToothWheelTimer fuelByLoad() {
        ToothWheelTimer x = fresh();
        for (int n = 0; n < 64; n++) {
            x.set(1, n / 8, n % 8, 256 * (n % 8));
        }
        x.sample(1, 300);
        return x;
    }

    private static void amountsByLoad(int[][] cases) {
        for (int[] c : cases) {
            ToothWheelTimer x = fuelByLoad();
            x.sample(0, c[0]);
            due.same("amount with the load " + c[0], opening(x, 640), c[1]);
        }
    }

    private static void loadAtTheEnds() {
        due.sentence("y = 7 * L / 4, L being the value of sensor 0: at the ends of L");
        amountsByLoad(new int[][] {{16, 28}, {1007, 1762}});
        due.same("amount before the first sample, L = 512", opening(fuelByLoad(), 640), 896);
        // a first sample that fails leaves L as it is
        amountsByLoad(new int[][] {{15, 896}, {1008, 896}});
    }

    private static void loadIsRoundedDown() {
        due.sentence("all divisions are rounded down: 7 * L / 4");
        amountsByLoad(new int[][] {{17, 29}, {18, 31}, {19, 33}, {20, 35}, {511, 894}, {513, 897}, {1006, 1760}});
    }

    private static void loadOfAFailedSensor() {
        due.sentence("y = 7 * L / 4, L being the value of sensor 0: 400 from count 3 on");
        for (int times = 2; times <= 3; times++) {
            ToothWheelTimer x = fuelByLoad();
            x.sample(0, 800);
            Engine.fail(x, 0, times);
            due.same("amount at count " + times, opening(x, 640), times == 2 ? 1400 : 700);
        }
    }

    private static int amount(int fuel, int heatSample) {
        ToothWheelTimer x = fresh();
        Engine.present(x, 1, fuel);
        x.sample(1, heatSample);
        return opening(x, 640);
    }

    private static void enrichmentBelowEighty() {
        due.sentence("W = 80 - H where H is below 80, else 0");
        // the samples 332, 333, 341, 342 and 350 give 81, 80, 80, 79 and 78
        int[][] cases = {{16, 1000}, {332, 1000}, {333, 1000}, {341, 1000}, {342, 1010}, {350, 1020}};
        for (int[] c : cases) {
            due.same("amount of 1000 with the sample " + c[0], amount(1000, c[0]), c[1]);
        }
    }

    private static void enrichmentOfTheColdest() {
        due.sentence("W = 80 - H, H being below 0 too");
        // 866 gives 25 + floor(-24.88) = 0, 867 gives -1, 1007 gives -36
        int[][] cases = {{866, 1800}, {867, 1810}, {1006, 2160}, {1007, 2160}};
        for (int[] c : cases) {
            due.same("amount of 1000 with the sample " + c[0], amount(1000, c[0]), c[1]);
        }
    }

    private static void enrichmentOfAFailedSensor() {
        due.sentence("H, the value of sensor 1: 60 before the first sample, 80 from count 3 on");
        for (int times = 0; times <= 3; times++) {
            ToothWheelTimer x = fresh();
            Engine.present(x, 1, 1000);
            Engine.fail(x, 1, times);
            due.same("amount of 1000 at count " + times, opening(x, 640), times < 3 ? 1200 : 1000);
        }
    }

    private static void amountIsRoundedDown() {
        due.sentence("The AMOUNT is the present value of chart 1 times (100 + W), divided by 100");
        // W = 1
        int[][] cases = {{1, 1}, {2, 2}, {99, 99}, {100, 101}, {101, 102}, {199, 200}, {200, 202}};
        for (int[] c : cases) {
            due.same("amount of " + c[0], amount(c[0], 342), c[1]);
        }
        // W = 116: 3 * 2.16 = 6.48; the greatest one lasts longer than the wheel may stand still
        due.same("amount of 3 when coldest", amount(3, 1007), 6);
        ToothWheelTimer x = fresh();
        Engine.level(x, 1, 32000);
        x.sample(1, 1007);
        Engine.lockWithTurn(x, 12, 20000);
        Engine.turnRound(x, 12, 20000);
        due.same("69119 after opening", x.rest(69119), 0);
        due.same("69120 after opening", x.rest(1), 1);
        due.same("closed", x.output(0), Engine.closed(1 + 28 * 20000 + 69120, 0));
    }
}
