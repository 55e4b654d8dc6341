/** What the document's first sentence says of a desk, once from end to end. */
public final class WholeDeskTest {
    private static final long UNIT = 1L << 30;

    public static void main(String[] args) {
        Edges.sentence("A desk where motions are stepped through time: laws are built of nodes over states, "
            + "time and signals", WholeDeskTest::laws);
        Edges.sentence("seven written methods make steps whose every rounding is told",
            WholeDeskTest::methods);
        Edges.sentence("one of them chooses its own steps", WholeDeskTest::ownSteps);
        Edges.sentence("what happens between two states is a written cubic", WholeDeskTest::cubic);
        Edges.sentence("events are found on it and act", WholeDeskTest::events);
        Edges.sentence("and runs are kept, brought back and compared bit by bit.", WholeDeskTest::kept);
        Edges.end();
    }

    private static double number(long bits) {
        return Double.longBitsToDouble(bits);
    }

    /** A ball that falls: place' = speed, speed' = -10 + a push that a SIGNAL tells by time. */
    private static MotionStepper ball() {
        MotionStepper x = new MotionStepper();
        int push = x.signal(0);
        x.point(push, 0, 0, 0);
        x.point(push, 8, 12, 0);
        int law = x.law(2, 0);
        int place = x.node(law, 0, 0, 0, 0);
        int speed = x.node(law, 0, 1, 0, 0);
        int time = x.node(law, 1, 0, 0, 0);
        int pushed = x.node(law, 12, time, push, 0);
        int fall = x.constant(law, -10, 0);
        int both = x.node(law, 2, fall, pushed, 0);
        x.side(law, 0, speed);
        x.side(law, 1, both);
        int run = x.run(law, 0, 0);
        x.set(run, 0, 5, 0);
        Edges.due("the nodes are as they came", place + speed + time + pushed + fall + both, 15);
        return x;
    }

    private static void laws() {
        MotionStepper x = ball();
        x.length(0, 1, 1);
        double place = 5, speed = 0;
        for (int round = 0; round < 40; round++) {
            double t = round * 0.5;
            Edges.due("step", x.step(0), 0);
            double slope = speed;
            speed = speed + 0.5 * (t < 8 ? -10.0 : 2.0);
            place = place + 0.5 * slope;
            Edges.dueNumber("time", x.clock(0, 0), t + 0.5);
            Edges.dueNumber("place", x.state(0, 0), place);
            Edges.dueNumber("speed", x.state(0, 1), speed);
        }
    }

    /** From rest: the place of a fall of 1 is 5 - 5 by those that are exact for it. */
    private static void methods() {
        double[] places = {5, 0, 0, 0, 0, -5, 0};
        for (int m = 0; m <= 6; m++) {
            MotionStepper x = ball();
            Edges.due("method", x.method(0, m), 1);
            x.tolerance(0, 1, 0, 0);
            x.length(0, 1, 0);
            Edges.due("step", x.step(0), 0);
            double place = number(x.state(0, 0));
            Edges.dueTrue("METHOD " + m + " is near " + places[m],
                Math.abs(place - places[m]) < 0x1p-40);
            Edges.dueNumber("METHOD " + m + ", k1", x.stage(0, 1, 1), -10.0);
            // Each rounding: a third of the LENGTH, and the state to the last bit.
            MotionStepper y = ball();
            y.method(0, m);
            y.tolerance(0, 1, 0, 0);
            y.length(0, 357913941, 30);
            double h = 357913941 * 0x1p-30;
            y.step(0);
            double[] weights = {h, h, h / 6, h / 6, h / 9, h, h / 2};
            double[] slopes = {-10, -10, -60, -60, -90, -10, -10};
            double speed = 0.0 + weights[m] * slopes[m];
            Edges.dueNumber("METHOD " + m + ", speed", y.state(0, 1), m == 6 ? speed + speed : speed);
        }
    }

    private static void ownSteps() {
        MotionStepper x = ball();
        x.method(0, 4);
        int taken = x.to(0, 16, 0, 200);
        Edges.dueTrue("it takes steps", taken > 2);
        Edges.dueTrue("it has REJECTED some, where the push begins", x.count(0, 3) > 0);
        Edges.dueNumber("it is there", x.clock(0, 0), 16.0);
        Edges.dueTrue("the speed is near -64", Math.abs(number(x.state(0, 1)) + 64) < 0x1p-10);
        // As long as may be while nothing pushes.
        MotionStepper y = ball();
        y.method(0, 4);
        y.length(0, 1, 6);
        y.tolerance(0, 1, 0, 0);
        double[] lengths = {0x1p-4, 0x1p-2, 1, 4};
        for (double length : lengths) {
            Edges.due("step", y.step(0), 0);
            Edges.dueNumber("the next LENGTH", y.clock(0, 1), length);
        }
    }

    /** A fall is a parabola, which a cubic meets: 5 - 5 * s * s of a step of 1. */
    private static void cubic() {
        MotionStepper x = ball();
        x.method(0, 1);
        x.length(0, 1, 0);
        x.step(0);
        for (int n = 0; n <= 8; n++) {
            double s = n / 8.0;
            Edges.dueNumber("place at " + s, x.between(0, 0, n, 3), 5 - 5 * s * s);
            Edges.dueNumber("speed at " + s, x.between(0, 1, n, 3), 0.0 - 10 * s);
        }
    }

    /** It meets the ground at 1 of a step of 2, and goes up again as fast. */
    private static void events() {
        MotionStepper x = ball();
        x.method(0, 1);
        x.length(0, 2, 0);
        Edges.due("event", x.event(0, 0, -1, 2, 1), 0);
        Edges.due("step", x.step(0), 0);
        Edges.dueNumber("when", x.fired(0, 0, 1), 1.0);
        Edges.dueNumber("time", x.clock(0, 0), 1.0);
        Edges.dueNumber("place", x.state(0, 0), 0.0);
        Edges.dueNumber("speed", x.state(0, 1), 10.0);
        Edges.due("step", x.step(0), 0);
        Edges.dueNumber("time", x.clock(0, 0), 3.0);
        Edges.due("it began at 0, not above it", x.count(0, 7), 1);
        Edges.dueNumber("the top on the way", x.between(0, 0, UNIT / 2, 30), 5.0);
    }

    private static void kept() {
        MotionStepper x = ball();
        x.method(0, 3);
        x.to(0, 1, 0, 200);
        Edges.due("keep", x.keep(0, 0), 1);
        x.to(0, 2, 0, 200);
        Edges.due("keep", x.keep(0, 1), 1);
        Edges.due("time and both states", x.unlike(0, 0), 3);
        Edges.due("back", x.back(0, 0), 1);
        Edges.due("alike", x.unlike(0, 0), 0);
        Edges.due("the same way again", x.to(0, 2, 0, 200), 8);
        Edges.due("bit by bit", x.unlike(0, 1), 0);
        x.back(0, 0);
        x.length(0, 1, 4);
        Edges.due("another way", x.to(0, 2, 0, 200), 16);
        Edges.dueTrue("the LENGTH is another", x.unlike(0, 1) > 0);
    }
}
