/** The sentences under "SENSORS" that name a bound: at it and at the first number beyond. */
public final class SensorBoundsTest {
    private static final Due due = new Due();

    public static void main(String[] args) {
        for (int sensor = 0; sensor < 2; sensor++) {
            rangeOfSamples(sensor);
            differenceOfSamples(sensor);
            differenceFromTheEnds(sensor);
            sampleBeforeOutOfRange(sensor);
            sampleBeforeThatFailed(sensor);
            firstSample(sensor);
            sampleBeforeOfTheOtherSensor(sensor);
            countAtMost(sensor);
            countAtLeast(sensor);
            codeAtCountThree(sensor);
            codeOnlyByAFailingSample(sensor);
            codeOnlyWhenTheCountBecomesThree(sensor);
            codeIfNoneIsStored(sensor);
            codeAgainAfterClear(sensor);
            codesOfBoth(sensor);
            valueAtCountThree(sensor);
            valueBeforeTheFirst(sensor);
            valueOfTheLatestThatDidNotFail(sensor);
        }
        loadAsSampled();
        heatAtTheEnds();
        heatAtThePoints();
        heatIsRoundedDown();
        due.end();
    }

    private static ToothWheelTimer fresh() {
        return new ToothWheelTimer(12, 1, 1, 1);
    }

    private static String call(int sensor, int s) {
        return "sample(" + sensor + ", " + s + ")";
    }

    private static void rangeOfSamples(int sensor) {
        due.sentence("A SAMPLE FAILS when it is not 16 .. 1007");
        int[][] cases = {{Integer.MIN_VALUE, 0}, {-1, 0}, {0, 0}, {15, 0}, {16, 1}, {17, 1}, {1006, 1}, {1007, 1},
            {1008, 0}, {1023, 0}, {1024, 0}, {Integer.MAX_VALUE, 0}};
        for (int[] c : cases) {
            ToothWheelTimer x = fresh();
            due.same(call(sensor, c[0]), x.sample(sensor, c[0]) ? 1 : 0, c[1]);
            due.same("count after " + call(sensor, c[0]), x.count(sensor), 1 - c[1]);
        }
    }

    private static void afterSample(int sensor, int first, int second, int want) {
        ToothWheelTimer x = fresh();
        x.sample(sensor, first);
        int before = x.count(sensor);
        String name = call(sensor, second) + " after " + first;
        due.same(name, x.sample(sensor, second) ? 1 : 0, want);
        due.same("count after " + name, x.count(sensor), want == 1 ? 0 : before + 1);
    }

    private static void differenceOfSamples(int sensor) {
        due.sentence("or when the sample before it of the same sensor was 16 .. 1007 and differs from it by more than 256");
        int[][] cases = {{500, 500, 1}, {500, 755, 1}, {500, 756, 1}, {500, 757, 0}, {500, 245, 1}, {500, 244, 1},
            {500, 243, 0}, {256, 512, 1}, {255, 512, 0}, {512, 256, 1}, {512, 255, 0}};
        for (int[] c : cases) {
            afterSample(sensor, c[0], c[1], c[2]);
        }
    }

    private static void differenceFromTheEnds(int sensor) {
        due.sentence("the sample before it was 16 .. 1007: at the ends");
        int[][] cases = {{16, 272, 1}, {16, 273, 0}, {1007, 751, 1}, {1007, 750, 0}, {16, 1007, 0}, {1007, 16, 0}};
        for (int[] c : cases) {
            afterSample(sensor, c[0], c[1], c[2]);
        }
    }

    private static void sampleBeforeOutOfRange(int sensor) {
        due.sentence("the sample before it was 16 .. 1007: beyond the ends");
        int[][] cases = {{15, 271, 1}, {15, 272, 1}, {15, 1007, 1}, {1008, 752, 1}, {1008, 751, 1}, {1008, 16, 1},
            {Integer.MIN_VALUE, 1007, 1}, {Integer.MAX_VALUE, 16, 1}};
        for (int[] c : cases) {
            afterSample(sensor, c[0], c[1], c[2]);
        }
        ToothWheelTimer x = fresh();
        x.sample(sensor, 16);
        x.sample(sensor, 15);
        due.yes("only the one just before matters", x.sample(sensor, 1007));
    }

    private static void sampleBeforeThatFailed(int sensor) {
        due.sentence("the sample before it of the same sensor: also one that failed by its difference");
        ToothWheelTimer x = fresh();
        x.sample(sensor, 100);
        due.no("357 after 100", x.sample(sensor, 357));
        due.no("100 after 357", x.sample(sensor, 100));
        due.yes("356 after 100", x.sample(sensor, 356));
        due.no("613 after 356", x.sample(sensor, 613));
        due.yes("613 again", x.sample(sensor, 613));
    }

    private static void firstSample(int sensor) {
        due.sentence("when the sample before it was 16 .. 1007: there is none before the first");
        due.yes("16 at first", fresh().sample(sensor, 16));
        due.yes("1007 at first", fresh().sample(sensor, 1007));
    }

    private static void sampleBeforeOfTheOtherSensor(int sensor) {
        due.sentence("the sample before it of the same sensor");
        ToothWheelTimer x = fresh();
        x.sample(sensor, 16);
        due.yes("the other sensor's first", x.sample(1 - sensor, 1007));
        due.yes("16 again", x.sample(sensor, 16));
        due.yes("1007 again", x.sample(1 - sensor, 1007));
        due.same("count", x.count(sensor) + x.count(1 - sensor), 0);
    }

    private static void countAtMost(int sensor) {
        due.sentence("A sensor's COUNT, 0 at first, is one more with a failing sample, but at most 6");
        ToothWheelTimer x = fresh();
        due.same("count at first", x.count(sensor), 0);
        for (int i = 1; i <= 9; i++) {
            x.sample(sensor, 1008);
            due.same("count after " + i + " failing samples", x.count(sensor), i < 6 ? i : 6);
            due.same("count of the other sensor", x.count(1 - sensor), 0);
        }
        x.sample(sensor, 500);
        due.same("one less after the most", x.count(sensor), 5);
    }

    private static void countAtLeast(int sensor) {
        due.sentence("and one less with another, but at least 0");
        ToothWheelTimer x = fresh();
        x.sample(sensor, 500);
        x.sample(sensor, 500);
        due.same("count of samples that do not fail", x.count(sensor), 0);
        Engine.fail(x, sensor, 6);
        for (int i = 1; i <= 9; i++) {
            x.sample(sensor, 500);
            due.same("count after " + i + " that do not fail", x.count(sensor), i < 6 ? 6 - i : 0);
        }
        x.sample(sensor, 0);
        due.same("one more after the least", x.count(sensor), 1);
    }

    private static void codeAtCountThree(int sensor) {
        due.sentence("When a failing sample makes the count 3, a CODE with its FRAME is stored");
        ToothWheelTimer x = fresh();
        x.rest(40);
        Engine.fail(x, sensor, 2);
        due.same("frame at count 2", x.frame(sensor, 0), -1);
        due.same("clear() at count 2", x.clear(), 0);
        x.rest(2);
        Engine.fail(x, sensor, 1);
        due.same("frame at count 3", x.frame(sensor, 0), 42);
        due.same("clear() at count 3", x.clear(), 1);
    }

    private static void codeOnlyByAFailingSample(int sensor) {
        due.sentence("When a failing sample makes the count 3: not when another does");
        ToothWheelTimer x = fresh();
        Engine.fail(x, sensor, 4);
        x.clear();
        x.sample(sensor, 500);
        due.same("count", x.count(sensor), 3);
        due.same("frame", x.frame(sensor, 0), -1);
    }

    private static void codeOnlyWhenTheCountBecomesThree(int sensor) {
        due.sentence("makes the count 3: not 4, 5 or 6");
        ToothWheelTimer x = fresh();
        Engine.fail(x, sensor, 3);
        x.clear();
        for (int i = 4; i <= 8; i++) {
            Engine.fail(x, sensor, 1);
            due.same("frame after failing sample " + i, x.frame(sensor, 0), -1);
        }
    }

    private static void codeIfNoneIsStored(int sensor) {
        due.sentence("if none is stored for that sensor");
        ToothWheelTimer x = fresh();
        x.rest(5);
        Engine.fail(x, sensor, 3);
        x.rest(6);
        x.sample(sensor, 500);
        due.same("count 2", x.count(sensor), 2);
        Engine.fail(x, sensor, 1);
        due.same("count 3 again", x.count(sensor), 3);
        due.same("the frame of the first time", x.frame(sensor, 0), 5);
        due.same("one code", x.clear(), 1);
    }

    private static void codeAgainAfterClear(int sensor) {
        due.sentence("if none is stored for that sensor: after clear none is");
        ToothWheelTimer x = fresh();
        x.rest(5);
        Engine.fail(x, sensor, 3);
        x.clear();
        x.rest(6);
        x.sample(sensor, 500);
        Engine.fail(x, sensor, 1);
        due.same("the frame of the second time", x.frame(sensor, 0), 11);
    }

    private static void codesOfBoth(int sensor) {
        due.sentence("if none is stored for that sensor: the other's does not matter");
        ToothWheelTimer x = fresh();
        Engine.fail(x, sensor, 3);
        x.rest(9);
        Engine.fail(x, 1 - sensor, 3);
        due.same("the frame of the first", x.frame(sensor, 0), 0);
        due.same("the frame of the other", x.frame(1 - sensor, 0), 9);
        due.same("two codes", x.clear(), 2);
    }

    private static void valueAtCountThree(int sensor) {
        due.sentence("The value of a sensor is 400 (sensor 0) or 80 (sensor 1) when its count is 3 or more");
        int good = sensor == 0 ? 256 : 90;
        int substitute = sensor == 0 ? 400 : 80;
        ToothWheelTimer x = fresh();
        x.sample(sensor, 256);
        for (int i = 1; i <= 7; i++) {
            Engine.fail(x, sensor, 1);
            due.same("value after " + i + " failing samples", x.value(sensor), i < 3 ? good : substitute);
        }
        for (int i = 5; i >= 0; i--) {
            x.sample(sensor, 256);
            due.same("value at count " + i + " again", x.value(sensor), i < 3 ? good : substitute);
        }
        ToothWheelTimer y = fresh();
        Engine.fail(y, sensor, 3);
        y.clear();
        due.same("value at count 3 without a code", y.value(sensor), substitute);
    }

    private static void valueBeforeTheFirst(int sensor) {
        due.sentence("otherwise what the latest sample that did not fail gives, before the first 512 or 60");
        int first = sensor == 0 ? 512 : 60;
        ToothWheelTimer x = fresh();
        due.same("value at first", x.value(sensor), first);
        Engine.fail(x, sensor, 2);
        due.same("value after two that failed", x.value(sensor), first);
        x.sample(sensor, 256);
        due.same("value after the first", x.value(sensor), sensor == 0 ? 256 : 90);
    }

    private static void valueOfTheLatestThatDidNotFail(int sensor) {
        due.sentence("what the latest sample that did not fail gives");
        int good = sensor == 0 ? 768 : 25;
        ToothWheelTimer x = fresh();
        x.sample(sensor, 768);
        x.sample(sensor, 511);
        due.same("value after one that failed by its difference", x.value(sensor), good);
        x.sample(sensor, 15);
        due.same("value after one that failed by its range", x.value(sensor), good);
        x.sample(sensor, 512);
        due.same("value after the next", x.value(sensor), sensor == 0 ? 512 : 60);
    }

    private static void loadAsSampled() {
        due.sentence("A sample s gives s for sensor 0");
        for (int s : new int[] {16, 17, 255, 256, 257, 767, 768, 1006, 1007}) {
            ToothWheelTimer x = fresh();
            x.sample(0, s);
            due.same("load of " + s, x.value(0), s);
        }
    }

    private static void heats(int[][] cases) {
        for (int[] c : cases) {
            ToothWheelTimer x = fresh();
            x.sample(1, c[0]);
            due.same("heat of " + c[0], x.value(1), c[1]);
        }
    }

    private static void heatAtTheEnds() {
        due.sentence("for sensor 1 it gives q(i) + (q(i + 1) - q(i)) * f / 256: at the ends");
        // 140 - 3.125, 140 - 3.3; 25 - 60.4, 25 - 60.7
        heats(new int[][] {{16, 136}, {17, 136}, {1006, -36}, {1007, -36}});
    }

    private static void heatAtThePoints() {
        due.sentence("i = s / 256, f = s - 256 * i, and q(0) .. q(4) = 140, 90, 60, 25, -40");
        heats(new int[][] {{255, 90}, {256, 90}, {257, 89}, {511, 60}, {512, 60}, {513, 59}, {767, 25}, {768, 25},
            {769, 24}});
    }

    private static void heatIsRoundedDown() {
        due.sentence("all divisions are rounded down: * f / 256 of a negative number");
        // -50 * 128 = -25 * 256 just; -50 * 127 / 256 = -24.8; -50 * 129 / 256 = -25.2
        heats(new int[][] {{127, 115}, {128, 115}, {129, 114}, {383, 75}, {384, 75}, {385, 74}, {640, 42}, {896, -8},
            {866, 0}, {867, -1}});
    }
}
