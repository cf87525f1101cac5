import java.util.ArrayList;
import java.util.List;

/**
 * "A call that is refused, because a number is not as said there, changes nothing": two timers go the same way, one of
 * them hears a refused call in between, and both must answer alike then and at the end of the way. Every number that is
 * refused is tried at every place of the way.
 */
public final class RefusalTest {
    private static final int LEAST = Integer.MIN_VALUE;
    private static final int MOST = Integer.MAX_VALUE;
    private static final int STEPS = 28;
    private static final Due due = new Due();
    private static final List<Refused> refused = new ArrayList<>();

    private interface Call {
        long to(ToothWheelTimer x);
    }

    private record Refused(String name, Call call, long answer) { }

    public static void main(String[] args) {
        charts();
        sensors();
        wheel();
        questions();
        due.sentence("A call that is refused, because a number is not as said there, changes nothing");
        for (Refused r : refused) {
            for (int place = 0; place <= STEPS; place++) {
                refuse(r, place);
            }
        }
        askingChangesNothing();
        theWayHasAll();
        due.end();
    }

    private static void add(String name, Call call, long answer) {
        refused.add(new Refused(name, call, answer));
    }

    private static void addSet(int chart, int i, int j, int value) {
        add("set(" + chart + ", " + i + ", " + j + ", " + value + ")", x -> x.set(chart, i, j, value) ? 1 : 0, 0);
    }

    private static void charts() {
        int[] noPoint = {LEAST, -1, 8, MOST};
        for (int chart = 0; chart < 2; chart++) {
            for (int wrong : noPoint) {
                addSet(chart, wrong, 3, 1);
                addSet(chart, 1, wrong, 1);
            }
            int most = chart == 0 ? 2047 : 32000;
            for (int wrong : new int[] {LEAST, -1, most + 1, MOST}) {
                addSet(chart, 1, 3, wrong);
            }
            int number = chart;
            for (int wrong : new int[] {LEAST, -1, 1792, MOST}) {
                add("look(" + chart + ", " + wrong + ", 0)", x -> x.look(number, wrong, 0), -1);
                add("look(" + chart + ", 0, " + wrong + ")", x -> x.look(number, 0, wrong), -1);
            }
        }
        for (int wrong : new int[] {LEAST, -1, 2, MOST}) {
            addSet(wrong, 1, 3, 1);
            add("look(" + wrong + ", 0, 0)", x -> x.look(wrong, 0, 0), -1);
        }
    }

    private static void sensors() {
        for (int wrong : new int[] {LEAST, -1, 2, MOST}) {
            add("sample(" + wrong + ", 300)", x -> x.sample(wrong, 300) ? 1 : 0, 0);
            add("sample(" + wrong + ", 0)", x -> x.sample(wrong, 0) ? 1 : 0, 0);
            add("value(" + wrong + ")", x -> x.value(wrong), 0);
            add("count(" + wrong + ")", x -> x.count(wrong), -1);
            add("frame(" + wrong + ", 0)", x -> x.frame(wrong, 0), -1);
        }
        for (int wrong : new int[] {LEAST, -1, 3, MOST}) {
            add("frame(0, " + wrong + ")", x -> x.frame(0, wrong), -1);
            add("frame(1, " + wrong + ")", x -> x.frame(1, wrong), -1);
        }
    }

    private static void wheel() {
        for (int wrong : new int[] {LEAST, -1, 0, 1000001, MOST}) {
            add("edge(" + wrong + ")", x -> x.edge(wrong), -1);
            add("teeth(1, " + wrong + ")", x -> x.teeth(1, wrong), -1);
            add("teeth(64, " + wrong + ")", x -> x.teeth(64, wrong), -1);
        }
        for (int wrong : new int[] {LEAST, -1, 0, 65, MOST}) {
            add("teeth(" + wrong + ", 1)", x -> x.teeth(wrong, 1), -1);
            add("teeth(" + wrong + ", 640)", x -> x.teeth(wrong, 640), -1);
            add("teeth(" + wrong + ", 0)", x -> x.teeth(wrong, 0), -1);
        }
        for (int wrong : new int[] {LEAST, -1, 10000001, MOST}) {
            add("rest(" + wrong + ")", x -> x.rest(wrong), -1);
        }
    }

    private static void questions() {
        for (int wrong : new int[] {LEAST, -1, 1536, MOST}) {
            add("foretell(" + wrong + ")", x -> x.foretell(wrong), -1);
        }
        for (int wrong : new int[] {LEAST, -1, 16, MOST}) {
            add("output(" + wrong + ")", x -> x.output(wrong), -1);
        }
        for (int wrong : new int[] {LEAST, -1, 4, MOST}) {
            add("tally(" + wrong + ")", x -> x.tally(wrong), -1);
        }
    }

    private static void refuse(Refused r, int place) {
        ToothWheelTimer plain = timer();
        ToothWheelTimer other = timer();
        String name = r.name + " before step " + place;
        for (int step = 0; step < STEPS; step++) {
            if (step == place) {
                due.same(name, r.call.to(other), r.answer);
                compare(name + ", then", other, plain);
            }
            long want = go(plain, step);
            due.same(name + ", step " + step, go(other, step), want);
        }
        if (place == STEPS) {
            due.same(name, r.call.to(other), r.answer);
        }
        compare(name + ", at the end", other, plain);
    }

    private static ToothWheelTimer timer() {
        ToothWheelTimer x = new ToothWheelTimer(12, 2, 4, 3000);
        Engine.level(x, 0, 70);
        Engine.level(x, 1, 900);
        return x;
    }

    /** Through all states and both turns, with coils on, injectors open, codes stored, a BAD edge and a stalling. */
    private static long go(ToothWheelTimer x, int step) {
        return switch (step) {
            case 0 -> x.edge(1);
            case 1 -> x.edge(640);
            case 2, 4, 12 -> x.edge(1920);
            case 3 -> x.teeth(9, 640);
            case 5, 17 -> x.cam() ? 1 : 0;
            case 6 -> x.sample(0, 300) ? 1 : 0;
            case 7 -> x.teeth(6, 640);
            case 8, 10, 14 -> x.sample(1, 0) ? 1 : 0;
            case 9 -> x.rest(400);
            case 11 -> x.teeth(3, 640);
            case 13 -> x.rest(100);
            case 15 -> x.teeth(9, 900);
            case 16 -> x.edge(2700);
            case 18 -> x.teeth(8, 900);
            case 19 -> x.sample(0, 1008) ? 1 : 0;
            case 20 -> x.rest(10);
            case 21 -> x.edge(300);
            case 22 -> x.rest(2500);
            case 23 -> x.edge(50);
            case 24 -> x.rest(10000000);
            default -> x.sample(0, 0) ? 1 : 0;
        };
    }

    private static void compare(String name, ToothWheelTimer got, ToothWheelTimer want) {
        due.same(name + ": state()", got.state(), want.state());
        due.same(name + ": tooth()", got.tooth(), want.tooth());
        due.same(name + ": turn()", got.turn(), want.turn());
        due.same(name + ": unit()", got.unit(), want.unit());
        due.same(name + ": foretell(9)", got.foretell(9), want.foretell(9));
        due.same(name + ": waiting()", got.waiting(), want.waiting());
        due.same(name + ": running()", got.running(), want.running());
        for (int k = 0; k < 16; k++) {
            due.same(name + ": output(" + k + ")", got.output(k), want.output(k));
        }
        for (int k = 0; k < 4; k++) {
            due.same(name + ": tally(" + k + ")", got.tally(k), want.tally(k));
        }
        for (int sensor = 0; sensor < 2; sensor++) {
            due.same(name + ": value(" + sensor + ")", got.value(sensor), want.value(sensor));
            due.same(name + ": count(" + sensor + ")", got.count(sensor), want.count(sensor));
            for (int part = 0; part < 3; part++) {
                due.same(name + ": frame(" + sensor + ", " + part + ")", got.frame(sensor, part), want.frame(sensor, part));
            }
        }
        for (int chart = 0; chart < 2; chart++) {
            for (int n = 0; n < 25; n++) {
                int a = n / 5 * 447;
                int b = n % 5 * 447;
                due.same(name + ": look(" + chart + ", " + a + ", " + b + ")", got.look(chart, a, b), want.look(chart, a, b));
            }
        }
    }

    /** One timer is asked everything at one place of the way, the other one nothing before the end. */
    private static void askingChangesNothing() {
        due.sentence("state(), tooth() and all other calls that only answer change nothing, nor does rest(0)");
        for (int place = 0; place < STEPS; place++) {
            ToothWheelTimer plain = timer();
            ToothWheelTimer other = timer();
            String name = "asked before step " + place;
            for (int step = 0; step < STEPS; step++) {
                if (step == place) {
                    compare(name, other, other);
                    due.same(name + ": rest(0)", other.rest(0), 0);
                }
                long want = go(plain, step);
                due.same(name + ", step " + step, go(other, step), want);
            }
            compare(name + ", at the end", other, plain);
        }
        ToothWheelTimer withoutCam = Engine.lockWithTurn(timer(), 12, 640);
        Engine.turnRound(withoutCam, 12, 640);
        Engine.turnRound(withoutCam, 12, 640);
        compare("asked in turn 0", withoutCam, withoutCam);
        Engine.turnRound(withoutCam, 12, 640);
        due.same("asking is no cam edge: turn()", withoutCam.turn(), -1);
    }

    /** A way that never came to a coil that is on, or to a stored code, would show little. */
    private static void theWayHasAll() {
        due.sentence("the way that the refused calls are tried on");
        ToothWheelTimer x = timer();
        int everOn = 0;
        int mostWaiting = 0;
        int turns = 0;
        int states = 0;
        for (int step = 0; step < STEPS; step++) {
            go(x, step);
            everOn |= x.running();
            mostWaiting = Math.max(mostWaiting, x.waiting());
            turns |= 1 << (x.turn() + 1);
            states |= 1 << x.state();
        }
        due.same("coils and injectors that were on", everOn, 3 + 3 * 256);
        due.yes("events waited", mostWaiting > 1);
        due.same("turns", turns, 7);
        due.same("states", states, 15);
        due.yes("sparks", x.tally(0) > 0);
        due.yes("cuts", x.tally(1) > 0);
        due.same("ceased to be LOCKED", x.tally(3), 1);
        due.same("codes", x.clear(), 2);
    }
}
