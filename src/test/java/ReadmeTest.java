import java.io.IOException;
import java.nio.file.Files;
import java.nio.file.Path;
import java.util.ArrayList;
import java.util.List;

/** The examples of README.md stand here word by word, and do what it says. */
public final class ReadmeTest {
    private static int wrong;

    public static void main(String[] args) throws IOException {
        String here = withoutIndent(Files.readString(Path.of("src/test/java/ReadmeTest.java")));
        List<String> examples = examples(Files.readString(Path.of("README.md")));
        due("README.md has two examples", examples.size() == 2);
        for (String example : examples) {
            due("an example of README.md is here: " + example, here.contains(example));
        }
        decay();
        ball();
        System.out.println(examples.size() + " examples, " + wrong + " wrong");
        System.exit(wrong == 0 ? 0 : 1);
    }

    private static void due(String what, boolean holds) {
        if (!holds) {
            wrong++;
            System.out.println("not so: " + what);
        }
    }

    private static String withoutIndent(String text) {
        return text.replaceAll("(?m)^ +", "");
    }

    private static List<String> examples(String text) {
        List<String> found = new ArrayList<>();
        String[] parts = text.split("```java\n");
        for (int i = 1; i < parts.length; i++) {
            found.add(withoutIndent(parts[i].substring(0, parts[i].indexOf("```"))));
        }
        return found;
    }

    private static void decay() {
        MotionStepper desk = new MotionStepper();
        int law = desk.law(1, 0);                      // one variable, not narrow
        int x = desk.node(law, 0, 0, 0, 0);            // its state
        int down = desk.node(law, 6, x, 0, 0);         // -x
        desk.side(law, 0, down);                       // x' = -x
        int run = desk.run(law, 0, 0);                 // from time 0 on
        desk.set(run, 0, 1, 0);                        // x = 1
        desk.method(run, 3);                           // FOURTH
        int steps = desk.to(run, 2, 0, 200);           // to time 2: 16 steps
        double end = Double.longBitsToDouble(desk.state(run, 0));

        due("16 steps", steps == 16);
        due("x is near e^-2", Math.abs(end - Math.exp(-2)) < 1e-6);
        due("set(run, 0, 3, 1) puts 1.5", desk.set(run, 0, 3, 1) == 1
            && Double.longBitsToDouble(desk.state(run, 0)) == 1.5);
    }

    private static void ball() {
        MotionStepper desk = new MotionStepper();
        int law = desk.law(2, 0);                      // its place and its speed
        int place = desk.node(law, 0, 0, 0, 0);
        int speed = desk.node(law, 0, 1, 0, 0);
        desk.side(law, 0, speed);                      // place' = speed
        desk.side(law, 1, desk.constant(law, -10, 0)); // speed' = -10
        int ball = desk.run(law, 0, 0);
        desk.set(ball, 0, 5, 0);
        desk.method(ball, 1);                          // MIDDLE
        desk.length(ball, 3, 4);                       // by steps of 3/16
        desk.event(ball, place, -1, 2, 1);             // where the place falls to 0 the speed is negated
        desk.keep(ball, 0);
        int steps = desk.to(ball, 4, 0, 200);          // to time 4, through two bounces
        long bounces = desk.count(ball, 7);
        double first = Double.longBitsToDouble(desk.fired(ball, 0, 1));
        desk.back(ball, 0);                            // all as it was at time 0

        due("steps were taken", steps > 2);
        due("two bounces: " + bounces, bounces == 2);
        due("the first one is near 1", Math.abs(first - 1) < 1e-6);
        due("it is back", desk.unlike(ball, 0) == 0 && desk.count(ball, 2) == 0);
    }
}
