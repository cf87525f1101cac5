/** Promises 2 and 3: set and look. */
public final class ChartTest {
    private static final Due due = new Due();

    public static void main(String[] args) {
        bounds();
        between();
        refused();
        apart();
        whole();
        due.end();
    }

    private static ToothWheelTimer fresh() {
        return new ToothWheelTimer(12, 1, 1, 1);
    }

    private static void bounds() {
        int[] most = {2047, 32000};
        for (int chart = 0; chart < 2; chart++) {
            ToothWheelTimer x = fresh();
            due.yes("set to 0", x.set(chart, 0, 0, 0));
            due.yes("set to the most", x.set(chart, 0, 0, most[chart]));
            due.same("look at the most", x.look(chart, 0, 0), most[chart]);
            due.no("set to more", x.set(chart, 0, 0, most[chart] + 1));
            due.no("set to less", x.set(chart, 0, 0, -1));
            due.no("set to far less", x.set(chart, 0, 0, Integer.MIN_VALUE));
            due.no("set to far more", x.set(chart, 0, 0, Integer.MAX_VALUE));
            due.same("look after refusals", x.look(chart, 0, 0), most[chart]);
            due.yes("set at (7, 7)", x.set(chart, 7, 7, 5));
            due.yes("set again", x.set(chart, 7, 7, 6));
        }
    }

    private static void between() {
        ToothWheelTimer x = fresh();
        x.set(1, 2, 3, 1000);
        x.set(1, 3, 3, 2000);
        x.set(1, 2, 4, 4000);
        x.set(1, 3, 4, 8000);
        due.same("(512, 768)", x.look(1, 512, 768), 1000);
        due.same("(640, 768)", x.look(1, 640, 768), 1500);
        due.same("(512, 896)", x.look(1, 512, 896), 2500);
        due.same("(640, 896)", x.look(1, 640, 896), 3750);
        // (1000*255*255 + 2000*255 + 4000*255 + 8000 + 32768) / 65536 = 1016.2
        due.same("(513, 769)", x.look(1, 513, 769), 1016);
        // (1000*1*253 + 2000*255*253 + 4000*1*3 + 8000*255*3 + 32768) / 65536 = 2066.8
        due.same("(767, 771)", x.look(1, 767, 771), 2066);
        due.same("(511, 768)", x.look(1, 511, 768), 996);
        due.same("(512, 767)", x.look(1, 512, 767), 996);
        ToothWheelTimer y = fresh();
        y.set(0, 0, 0, 1);
        due.same("a half is rounded up", y.look(0, 128, 0), 1);
        due.same("less than a half is not", y.look(0, 129, 0), 0);
    }

    private static void refused() {
        ToothWheelTimer x = fresh();
        Engine.level(x, 0, 7);
        Engine.level(x, 1, 7);
        int[] wrong = {-1, 8, Integer.MIN_VALUE, Integer.MAX_VALUE};
        for (int w : wrong) {
            due.no("set(0, " + w + ", 0, 1)", x.set(0, w, 0, 1));
            due.no("set(0, 0, " + w + ", 1)", x.set(0, 0, w, 1));
            due.no("set(1, 1, " + w + ", 1)", x.set(1, 1, w, 1));
        }
        int[] charts = {-1, 2, Integer.MIN_VALUE, Integer.MAX_VALUE};
        for (int c : charts) {
            due.no("set(" + c + ", 0, 0, 1)", x.set(c, 0, 0, 1));
            due.same("look(" + c + ", 0, 0)", x.look(c, 0, 0), -1);
        }
        int[] out = {-1, 1792, Integer.MIN_VALUE, Integer.MAX_VALUE};
        for (int w : out) {
            for (int chart = 0; chart < 2; chart++) {
                due.same("look(" + chart + ", " + w + ", 0)", x.look(chart, w, 0), -1);
                due.same("look(" + chart + ", 0, " + w + ")", x.look(chart, 0, w), -1);
            }
        }
        for (int i = 0; i < 1792; i += 85) {
            due.same("look(0, " + i + ", 1791 - " + i + ")", x.look(0, i, 1791 - i), 7);
            due.same("look(1, " + i + ", " + i + ")", x.look(1, i, i), 7);
        }
    }

    /** A point of one chart belongs to no other point and to no other chart. */
    private static void apart() {
        for (int chart = 0; chart < 2; chart++) {
            ToothWheelTimer x = fresh();
            for (int p = 0; p < 64; p++) {
                x.set(chart, p / 8, p % 8, 100 + p);
            }
            for (int p = 0; p < 64; p++) {
                if (p / 8 < 7 && p % 8 < 7) {
                    due.same("point " + p, x.look(chart, p / 8 * 256, p % 8 * 256), 100 + p);
                    due.same("other chart", x.look(1 - chart, p / 8 * 256, p % 8 * 256), 0);
                }
            }
        }
    }

    private static void whole() {
        ToothWheelTimer x = fresh();
        Engine.level(x, 1, 32000);
        due.same("all 32000", x.look(1, 1000, 1777), 32000);
        due.same("all 32000 at the end", x.look(1, 1791, 1791), 32000);
        ToothWheelTimer y = fresh();
        y.set(1, 7, 7, 32000);
        // 32000 * 255 * 255 / 65536 = 31750.49
        due.same("corner", y.look(1, 1791, 1791), 31750);
        due.same("beside the corner", y.look(1, 1791, 1536), 0);
    }
}
