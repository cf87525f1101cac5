/** A call that is refused changes nothing: two timers go the same way, and one of them hears refused calls too. */
public final class RefusalTest {
    private static final int WAYS = 14;
    private static final int STEPS = 14;
    private static final Due due = new Due();

    public static void main(String[] args) {
        for (int way = 0; way < WAYS; way++) {
            ToothWheelTimer plain = timer();
            ToothWheelTimer other = timer();
            for (int step = 0; step < STEPS; step++) {
                long want = go(plain, step);
                refuse(other, way);
                due.same("way " + way + ", step " + step, go(other, step), want);
                compare("way " + way + ", after step " + step, other, plain);
            }
        }
        due.end();
    }

    private static ToothWheelTimer timer() {
        ToothWheelTimer x = new ToothWheelTimer(12, 2, 6, 3000);
        Engine.level(x, 0, 70);
        Engine.level(x, 1, 900);
        x.edge(1);
        x.edge(640);
        return x;
    }

    private static void refuse(ToothWheelTimer x, int way) {
        switch (way) {
            case 0 -> due.same("edge(0)", x.edge(0), -1);
            case 1 -> due.same("edge(1000001)", x.edge(1000001), -1);
            case 2 -> due.same("teeth(0, 640)", x.teeth(0, 640), -1);
            case 3 -> due.same("teeth(65, 640)", x.teeth(65, 640), -1);
            case 4 -> due.same("teeth(3, 0)", x.teeth(3, 0), -1);
            case 5 -> due.same("teeth(3, 1000001)", x.teeth(3, 1000001), -1);
            case 6 -> due.same("rest(-1)", x.rest(-1), -1);
            case 7 -> due.same("rest(10000001)", x.rest(10000001), -1);
            case 8 -> due.no("sample(2, 300)", x.sample(2, 300));
            case 9 -> due.no("sample(-1, 0)", x.sample(-1, 0));
            case 10 -> due.no("set(2, 0, 3, 1)", x.set(2, 0, 3, 1));
            case 11 -> due.no("set(1, 0, 8, 1)", x.set(1, 0, 8, 1));
            case 12 -> due.no("set(0, 0, 3, 2048)", x.set(0, 0, 3, 2048));
            default -> due.no("set(1, -1, 3, 1)", x.set(1, -1, 3, 1));
        }
    }

    private static long go(ToothWheelTimer x, int step) {
        return switch (step) {
            case 0, 2, 6 -> x.edge(1920);
            case 1 -> x.teeth(9, 640);
            case 3 -> x.cam() ? 1 : 0;
            case 4, 8 -> x.teeth(6, 640);
            case 5 -> x.teeth(3, 640);
            case 7 -> x.sample(0, 300) ? 1 : 0;
            case 9 -> x.rest(500);
            case 10 -> x.sample(1, 0) ? 1 : 0;
            case 11 -> x.edge(200);
            case 12 -> x.rest(2500);
            default -> x.rest(10000);
        };
    }

    private static void compare(String name, ToothWheelTimer got, ToothWheelTimer want) {
        due.same(name + ": state()", got.state(), want.state());
        due.same(name + ": tooth()", got.tooth(), want.tooth());
        due.same(name + ": turn()", got.turn(), want.turn());
        due.same(name + ": unit()", got.unit(), want.unit());
        due.same(name + ": foretell(9)", got.foretell(9), want.foretell(9));
        due.same(name + ": waiting()", got.waiting(), want.waiting());
        due.same(name + ": running()", got.running(), want.running());
        due.same(name + ": output(0)", got.output(0), want.output(0));
        due.same(name + ": look(0, 30, 800)", got.look(0, 30, 800), want.look(0, 30, 800));
        due.same(name + ": look(1, 30, 800)", got.look(1, 30, 800), want.look(1, 30, 800));
        for (int i = 0; i < 4; i++) {
            due.same(name + ": tally(" + i + ")", got.tally(i), want.tally(i));
        }
        for (int sensor = 0; sensor < 2; sensor++) {
            due.same(name + ": value(" + sensor + ")", got.value(sensor), want.value(sensor));
            due.same(name + ": count(" + sensor + ")", got.count(sensor), want.count(sensor));
        }
    }
}
