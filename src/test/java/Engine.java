/** Ways to bring a timer to where a test begins. */
final class Engine {
    static final int NONE = ToothWheelTimer.NONE;

    private Engine() {
    }

    /** Tooth 0, LOCKED, turn not known, at the time 1 + u + 3u + (p - 3) * u + 3u = 1 + (p + 4) * u. */
    static ToothWheelTimer lock(ToothWheelTimer x, int p, int u) {
        x.edge(1);
        x.edge(u);
        x.edge(3 * u);
        x.teeth(p - 3, u);
        x.edge(3 * u);
        return x;
    }

    /** As lock, and then the cam edge: turn 0. */
    static ToothWheelTimer lockWithTurn(ToothWheelTimer x, int p, int u) {
        lock(x, p, u);
        x.cam();
        return x;
    }

    /** From tooth 0 to tooth 0 of the next turn. */
    static void turnRound(ToothWheelTimer x, int p, int u) {
        x.teeth(p - 3, u);
        x.edge(3 * u);
    }

    /** The same value at all points of a chart. */
    static void level(ToothWheelTimer x, int chart, int value) {
        for (int i = 0; i < 8; i++) {
            for (int j = 0; j < 8; j++) {
                x.set(chart, i, j, value);
            }
        }
    }

    static long switching(long time, boolean injector, int cylinder, boolean on) {
        return time * 32 + (injector ? 16 : 0) + 2 * cylinder + (on ? 1 : 0);
    }
}
