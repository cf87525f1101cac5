/** Ways to bring a timer to where a test begins. */
final class Engine {
    /** Tooth 0 of turn 0, where lockWithTurn ends with 12 positions and the unit 640: 10 for each step of the angle. */
    static final long START = 10241;

    private Engine() {
    }

    /** Tooth 0, COUNTING, at the time 1 + 4 * u. */
    static ToothWheelTimer count(ToothWheelTimer x, int u) {
        x.edge(1);
        x.edge(u);
        x.edge(3 * u);
        return x;
    }

    /** Tooth 0, LOCKED, turn not known, at the time 1 + u + 3u + (p - 3) * u + 3u = 1 + (p + 4) * u. */
    static ToothWheelTimer lock(ToothWheelTimer x, int p, int u) {
        count(x, u);
        x.teeth(p - 3, u);
        x.edge(3 * u);
        return x;
    }

    /** As lock, and then the cam edge: turn 0. */
    static ToothWheelTimer lockWithTurn(ToothWheelTimer x, int p, int u) {
        lock(x, p, u);
        x.cam();
        return x;
    }

    /** From tooth 0 to tooth 0 of the next turn. */
    static void turnRound(ToothWheelTimer x, int p, int u) {
        x.teeth(p - 3, u);
        x.edge(3 * u);
    }

    /** The same value at all points of a chart. */
    static void level(ToothWheelTimer x, int chart, int value) {
        for (int i = 0; i < 8; i++) {
            for (int j = 0; j < 8; j++) {
                x.set(chart, i, j, value);
            }
        }
    }

    /**
     * The present value of a chart, with few calls: the same value at the four points around the place of the unit
     * 640, x = 312, and of a sensor 0 without samples, y = 896.
     */
    static void present(ToothWheelTimer x, int chart, int value) {
        x.set(chart, 1, 3, value);
        x.set(chart, 2, 3, value);
        x.set(chart, 1, 4, value);
        x.set(chart, 2, 4, value);
    }

    /** A wheel of 12 positions for the unit 640, with its advance and fuel; it is warm, so that it needs no more fuel. */
    static ToothWheelTimer timer(int cylinders, int charge, int dwell, int lead, int fuel) {
        ToothWheelTimer x = new ToothWheelTimer(12, cylinders, charge, dwell);
        present(x, 0, lead);
        present(x, 1, fuel);
        x.sample(1, 300);
        return x;
    }

    /**
     * All six coils on and all six injectors open. The fuel lasts for two cycles; in the second of them each coil, when
     * it is on, misses its FIRE by an advance that grows. Ends at tooth 5 of turn 1, START + 26240.
     */
    static ToothWheelTimer allOn(int dwell) {
        ToothWheelTimer x = timer(6, 1, dwell, 0, 32000);
        lockWithTurn(x, 12, 640);
        turnRound(x, 12, 640);
        turnRound(x, 12, 640);
        x.cam();
        x.teeth(3, 640);
        present(x, 0, 64);
        x.teeth(3, 640);
        present(x, 0, 192);
        x.teeth(2, 640);
        present(x, 0, 256);
        x.edge(640);
        present(x, 0, 320);
        x.edge(1920);
        x.teeth(2, 640);
        present(x, 0, 384);
        x.teeth(3, 640);
        return x;
    }

    static ToothWheelTimer allOn() {
        return allOn(100000);
    }

    /** So many failing samples of a sensor. */
    static void fail(ToothWheelTimer x, int sensor, int times) {
        for (int i = 0; i < times; i++) {
            x.sample(sensor, 0);
        }
    }

    static long switching(long time, boolean injector, int cylinder, boolean on) {
        return time * 32 + (injector ? 16 : 0) + 2 * cylinder + (on ? 1 : 0);
    }

    static long on(long time, int cylinder) {
        return switching(time, false, cylinder, true);
    }

    static long off(long time, int cylinder) {
        return switching(time, false, cylinder, false);
    }

    static long opened(long time, int cylinder) {
        return switching(time, true, cylinder, true);
    }

    static long closed(long time, int cylinder) {
        return switching(time, true, cylinder, false);
    }
}
