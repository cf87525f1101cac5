import java.io.IOException;
import java.nio.file.Files;
import java.nio.file.Path;

/** The example of README.md: it stands there with these calls and answers, and they are those of the program. */
public final class ReadmeTest {
    private static final Due due = new Due();
    private static String readme = "";

    public static void main(String[] args) throws IOException {
        readme = Files.readString(Path.of("README.md"));
        ToothWheelTimer timer = new ToothWheelTimer(12, 2, 2, 3000);
        stands("ToothWheelTimer timer = new ToothWheelTimer(12, 2, 2, 3000);");
        says("timer.set(1, 0, 3, 500)", timer.set(1, 0, 3, 500));
        says("timer.set(1, 1, 3, 500)", timer.set(1, 1, 3, 500));
        says("timer.set(1, 0, 4, 500)", timer.set(1, 0, 4, 500));
        says("timer.set(1, 1, 4, 500)", timer.set(1, 1, 4, 500));
        says("timer.edge(5)", timer.edge(5), ToothWheelTimer.LOST, "LOST");
        says("timer.edge(1000)", timer.edge(1000), ToothWheelTimer.SEEKING, "SEEKING");
        says("timer.edge(3000)", timer.edge(3000), ToothWheelTimer.COUNTING, "COUNTING");
        says("timer.teeth(9, 1000)", timer.teeth(9, 1000), ToothWheelTimer.COUNTING, "COUNTING");
        says("timer.edge(3000)", timer.edge(3000), ToothWheelTimer.LOCKED, "LOCKED");
        says("timer.cam()", timer.cam());
        says("timer.turn()", timer.turn(), 0, "0");
        says("timer.foretell(64)", timer.foretell(64), 17005, "17005");
        says("timer.teeth(9, 1000)", timer.teeth(9, 1000), ToothWheelTimer.LOCKED, "LOCKED");
        says("timer.waiting()", timer.waiting(), 1, "1");
        says("timer.rest(1000)", timer.rest(1000), 1, "1");
        says("timer.running()", timer.running(), 2, "2");
        says("timer.output(0)", timer.output(0), 832163, "832163");
        says("timer.edge(2000)", timer.edge(2000), ToothWheelTimer.LOCKED, "LOCKED");
        says("timer.tally(0)", timer.tally(0), 1, "1");
        says("timer.running()", timer.running(), 256, "256");
        says("timer.rest(600)", timer.rest(600), 1, "1");
        says("timer.edge(0)", timer.edge(0), ToothWheelTimer.NONE, "NONE");
        due.end();
    }

    private static void stands(String line) {
        due.yes("README.md has " + line, readme.contains(line));
    }

    private static void says(String call, boolean got) {
        says(call, got ? 1 : 0, 1, "true");
    }

    private static void says(String call, long got, long want, String name) {
        due.same(call, got, want);
        boolean found = false;
        for (String line : readme.split("\n")) {
            found |= line.startsWith(call + ";") && line.contains("// " + name);
        }
        due.yes("README.md has " + call + " with the answer " + name, found);
    }
}
