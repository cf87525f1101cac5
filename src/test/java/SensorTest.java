/** Promises 4 to 8: sample, value, count, frame and clear. */
public final class SensorTest {
    private static final Due due = new Due();

    public static void main(String[] args) {
        range();
        leaps();
        previousThatFailed();
        counts();
        values();
        curve();
        frames();
        codeIsKept();
        clearing();
        noSuchSensor();
        due.end();
    }

    private static ToothWheelTimer fresh() {
        return new ToothWheelTimer(12, 1, 1, 1);
    }

    private static void range() {
        int[] sound = {16, 17, 512, 1006, 1007};
        int[] failing = {15, 0, -1, 1008, 1024, Integer.MIN_VALUE, Integer.MAX_VALUE};
        for (int sensor = 0; sensor < 2; sensor++) {
            for (int s : sound) {
                due.yes("first sample(" + sensor + ", " + s + ")", fresh().sample(sensor, s));
            }
            for (int s : failing) {
                due.no("first sample(" + sensor + ", " + s + ")", fresh().sample(sensor, s));
            }
        }
    }

    private static void leaps() {
        for (int sensor = 0; sensor < 2; sensor++) {
            ToothWheelTimer x = fresh();
            x.sample(sensor, 300);
            due.yes("up by 256", x.sample(sensor, 556));
            due.no("up by 257", x.sample(sensor, 813));
            due.yes("down by 256", x.sample(sensor, 557));
            due.no("down by 257", x.sample(sensor, 300));
            due.yes("the same", x.sample(sensor, 300));
            due.yes("the other sensor has its own sample before", x.sample(1 - sensor, 900));
        }
    }

    private static void previousThatFailed() {
        ToothWheelTimer x = fresh();
        x.sample(0, 100);
        due.no("leap", x.sample(0, 900));
        due.no("leap back: the sample before counts though it failed", x.sample(0, 100));
        due.yes("near the failed one", x.sample(0, 300));
        due.no("out of range", x.sample(0, 1008));
        due.yes("no leap from out of range", x.sample(0, 900));
        due.no("below the range", x.sample(0, 15));
        due.yes("no leap from below the range", x.sample(0, 1007));
        due.no("far out of range", x.sample(0, Integer.MAX_VALUE));
        due.yes("no leap from far out of range", x.sample(0, 16));
    }

    private static void counts() {
        for (int sensor = 0; sensor < 2; sensor++) {
            ToothWheelTimer x = fresh();
            x.sample(sensor, 300);
            due.same("count stays at 0", x.count(sensor), 0);
            for (int i = 1; i <= 8; i++) {
                x.sample(sensor, 0);
                due.same("count after failing sample " + i, x.count(sensor), Math.min(i, 6));
            }
            for (int i = 1; i <= 8; i++) {
                x.sample(sensor, 300);
                due.same("count after sound sample " + i, x.count(sensor), Math.max(6 - i, 0));
            }
            due.same("count of the other sensor", x.count(1 - sensor), 0);
        }
    }

    private static void values() {
        int[] first = {512, 60};
        int[] failed = {400, 80};
        int[] at256 = {256, 90};
        int[] at512 = {512, 60};
        for (int sensor = 0; sensor < 2; sensor++) {
            ToothWheelTimer x = fresh();
            due.same("value at first", x.value(sensor), first[sensor]);
            x.sample(sensor, 1008);
            due.same("value after a failing sample alone", x.value(sensor), first[sensor]);
            x.sample(sensor, 256);
            due.same("value after a sound one", x.value(sensor), at256[sensor]);
            x.sample(sensor, 0);
            x.sample(sensor, 0);
            due.same("value at count 2", x.value(sensor), at256[sensor]);
            x.sample(sensor, 0);
            due.same("value at count 3", x.value(sensor), failed[sensor]);
            x.sample(sensor, 0);
            x.sample(sensor, 512);
            due.same("value at count 3 again", x.value(sensor), failed[sensor]);
            x.sample(sensor, 512);
            due.same("value at count 2 again", x.value(sensor), at512[sensor]);
        }
        ToothWheelTimer y = fresh();
        y.sample(0, 0);
        y.sample(0, 0);
        due.same("value at count 2 without a sound one", y.value(0), 512);
    }

    private static void curve() {
        int[][] heat = {{16, 136}, {255, 90}, {256, 90}, {257, 89}, {384, 75}, {511, 60}, {512, 60}, {513, 59},
            {600, 47}, {767, 25}, {768, 25}, {769, 24}, {896, -8}, {1007, -36}};
        for (int[] h : heat) {
            ToothWheelTimer x = fresh();
            x.sample(1, h[0]);
            due.same("heat of " + h[0], x.value(1), h[1]);
        }
        for (int s = 16; s <= 1007; s++) {
            ToothWheelTimer x = fresh();
            x.sample(0, s);
            due.same("load of " + s, x.value(0), s);
        }
    }

    private static void frames() {
        ToothWheelTimer x = fresh();
        x.sample(0, 700);
        x.edge(100);
        x.edge(321);
        x.rest(9);
        Engine.fail(x, 1, 2);
        due.same("no frame at count 2", x.frame(1, 0), -1);
        Engine.fail(x, 1, 1);
        due.same("time of the code", x.frame(1, 0), 430);
        due.same("unit of the code", x.frame(1, 1), 321);
        due.same("load of the code", x.frame(1, 2), 700);
        due.same("other sensor's frame", x.frame(0, 0), -1);
        int[] parts = {-1, 3, Integer.MIN_VALUE, Integer.MAX_VALUE};
        for (int part : parts) {
            due.same("frame(1, " + part + ")", x.frame(1, part), -1);
        }
        x.rest(10000000);
        Engine.fail(x, 0, 3);
        due.same("time of the second code", x.frame(0, 0), 10000430);
        due.same("unit after stalling", x.frame(0, 1), 0);
        due.same("load as it is after the sample", x.frame(0, 2), 400);
        due.same("first frame stays", x.frame(1, 2), 700);
    }

    private static void codeIsKept() {
        ToothWheelTimer x = fresh();
        x.rest(5);
        Engine.fail(x, 0, 3);
        x.rest(6);
        x.sample(0, 500);
        Engine.fail(x, 0, 1);
        due.same("the first frame stays while the code is stored", x.frame(0, 0), 5);
        x.sample(0, 500);
        x.sample(0, 500);
        x.sample(0, 500);
        due.same("count is 0", x.count(0), 0);
        due.same("the code stays though the sensor is well", x.frame(0, 0), 5);
    }

    private static void clearing() {
        ToothWheelTimer x = fresh();
        Engine.fail(x, 0, 3);
        due.same("one code", x.clear(), 1);
        due.same("none left", x.clear(), 0);
        due.same("frame after clear", x.frame(0, 0), -1);
        due.same("count after clear", x.count(0), 3);
        due.same("value after clear", x.value(0), 400);
        x.rest(70);
        Engine.fail(x, 0, 5);
        due.same("no code when the count is beyond 3", x.frame(0, 0), -1);
        x.sample(0, 500);
        x.sample(0, 500);
        x.sample(0, 500);
        due.same("no code when a sound sample makes the count 3", x.frame(0, 0), -1);
        due.same("count is 3", x.count(0), 3);
        x.sample(0, 500);
        x.rest(1);
        Engine.fail(x, 0, 1);
        due.same("a code again", x.frame(0, 0), 71);
        Engine.fail(x, 1, 3);
        due.same("two codes", x.clear(), 2);
        due.same("count 1 after clear", x.count(1), 3);
    }

    private static void noSuchSensor() {
        ToothWheelTimer x = fresh();
        int[] sensors = {-1, 2, Integer.MIN_VALUE, Integer.MAX_VALUE};
        for (int sensor : sensors) {
            due.no("sample(" + sensor + ", 300)", x.sample(sensor, 300));
            due.no("sample(" + sensor + ", 0)", x.sample(sensor, 0));
            due.same("value(" + sensor + ")", x.value(sensor), 0);
            due.same("count(" + sensor + ")", x.count(sensor), -1);
            due.same("frame(" + sensor + ", 0)", x.frame(sensor, 0), -1);
        }
        due.same("count(0)", x.count(0), 0);
        due.same("count(1)", x.count(1), 0);
        due.same("value(0)", x.value(0), 512);
        due.same("value(1)", x.value(1), 60);
    }
}
