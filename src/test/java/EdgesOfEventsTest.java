/** BETWEEN and EVENTS: terms 3 and 4 with promises 22 and 23. */
public final class EdgesOfEventsTest {
    private static final int WILD = MotionStepper.WILD;
    private static final int FULL = MotionStepper.FULL;
    private static final long NONE = MotionStepper.NONE;
    private static final int MIN = Integer.MIN_VALUE;
    private static final int MAX = Integer.MAX_VALUE;
    private static final double INFINITY = Double.POSITIVE_INFINITY;
    private static final double LEAST = Double.MIN_VALUE;
    private static final double NAN = Double.NaN;
    private static final long UNIT = 1L << 30;

    public static void main(String[] args) {
        Edges.sentence("BETWEEN: of the latest step that was TAKEN", EdgesOfEventsTest::latestTaken);
        Edges.sentence("from t0, x0 by h to x1, with f0 = f(t0, x0) and f1 = f(t0 + h, x1)",
            EdgesOfEventsTest::endsOfTheStep);
        Edges.sentence("both as they were when it was TAKEN", EdgesOfEventsTest::asTaken);
        Edges.sentence("at s (0.0 to 1.0) it is x0 if s is 0, x1 if s is 1",
            EdgesOfEventsTest::endsOfBetween);
        Edges.sentence("else, u being 1 - s, put: (u * u) * ((1 + 2 * s) * x0 + (s * h) * f0) + (s * s) * "
            + "((1 + 2 * u) * x1 - (u * h) * f1)", EdgesOfEventsTest::cubic);
        Edges.sentence("its time is t0 + s * h.", EdgesOfEventsTest::timeOfBetween);
        Edges.sentence("BETWEEN, of VARIABLE i of a RUN at s = n / 2^k.", EdgesOfEventsTest::betweenOfARun);
        Edges.sentence("NONE: there is no such RUN or VARIABLE, no step yet, k isn't 0 to 30, or s isn't "
            + "0.0 to 1.0.", EdgesOfEventsTest::noBetween);
        Edges.sentence("EVENTS of a RUN are numbered 0 to 3: a NODE of its LAW, a direction, an action.",
            EdgesOfEventsTest::fourEvents);
        Edges.sentence("Behind a step that is TAKEN each one is looked at: a and b are the values of the "
            + "NODE at t0, x0 and at t0 + h, x1.", EdgesOfEventsTest::endsOfEvents);
        Edges.sentence("It COMES if a is below 0 and b not (b is a number), the direction being 1 or 0",
            EdgesOfEventsTest::rises);
        Edges.sentence("or if a is above 0 and b is 0 or below, the direction being -1 or 0.",
            EdgesOfEventsTest::falls);
        Edges.sentence("Then low is 0, high is 1, and 30 times: mid is (low + high) / 2",
            EdgesOfEventsTest::thirtyTimes);
        Edges.sentence("if the NODE's value at BETWEEN's state and time at mid is on b's side (at the rise "
            + "0 or above, at the fall 0 or below), high is mid, else low is. It comes at high.",
            EdgesOfEventsTest::sideOfB);
        Edges.sentence("Those that COME are FIRED, by high, of equals by number",
            EdgesOfEventsTest::order);
        Edges.sentence("until (with it) the first one whose action isn't 0", EdgesOfEventsTest::untilAction);
        Edges.sentence("then the RUN's state and time become BETWEEN's at its high, if that isn't 1",
            EdgesOfEventsTest::broughtBack);
        Edges.sentence("action 1: the RUN is ENDED", EdgesOfEventsTest::ends);
        Edges.sentence("2: VARIABLE w (0, if there is none such) is negated", EdgesOfEventsTest::negates);
        Edges.sentence("3: nothing more.", EdgesOfEventsTest::nothingMore);
        Edges.sentence("Those behind it are not FIRED.", EdgesOfEventsTest::behindIt);
        Edges.sentence("(The latest step, for BETWEEN, stays the whole one.)",
            EdgesOfEventsTest::wholeStep);
        Edges.sentence("Of the j-th EVENT that FIRED (from 0 on, over the RUN's whole life; the first 64 are "
            + "kept)",
            EdgesOfEventsTest::sixtyFour);
        Edges.sentence("what = 0 its number (as a whole number), 1 the time, as a NUMBER: t0 + high * h.",
            EdgesOfEventsTest::numberAndTime);
        Edges.sentence("NONE: there is no such RUN, no such one, another what.",
            EdgesOfEventsTest::noneFired);
        Edges.end();
    }

    // ---- desks

    /**
     * LAW 0: x' = 1, with NODES by time; the last of them is given back by node(). RUN 0 of it at
     * time 0, LENGTH 1.
     */
    private static final class Timed {
        final LawMaker law = new LawMaker(new MotionStepper(), 1, 0);
        final MotionStepper desk = law.desk;
        final int time = law.time();

        Timed() {
            law.side(0, law.constant(1, 0));
            law.run(0, 0);
            desk.length(0, 1, 0);
        }

        Timed event(double[] limits, double[] values, int direction, int action) {
            return eventOf(law.table(time, limits, values), direction, action, 0);
        }

        /** A rise at c. */
        Timed rise(double c, int action) {
            return eventOf(law.node(3, time, law.number(c), 0), 1, action, 0);
        }

        Timed eventOf(int q, int direction, int action, int w) {
            if (desk.event(0, q, direction, action, w) < 0) {
                throw new IllegalStateException("an event of the tests was refused");
            }
            return this;
        }
    }

    /** The first high of 30 halves at or behind c. */
    private static double highFor(double c) {
        return Math.ceil(c * UNIT) / UNIT;
    }

    // ---- BETWEEN

    private static void latestTaken() {
        // x' = 1 ahead of time 2, infinite behind it.
        LawMaker law = new LawMaker(new MotionStepper(), 1, 0);
        law.side(0, law.table(law.time(), new double[] {2}, new double[] {1, INFINITY}));
        law.run(0, 0);
        MotionStepper x = law.desk;
        x.length(0, 1, 0);
        Edges.due("none yet", x.between(0, 0, 0, 0), NONE);
        x.step(0);
        Edges.dueNumber("x0 of the first", x.between(0, 0, 0, 0), 0.0);
        Edges.dueNumber("x1 of the first", x.between(0, 0, 1, 0), 1.0);
        x.step(0);
        Edges.dueNumber("x0 of the second", x.between(0, 0, 0, 0), 1.0);
        Edges.due("wild", x.step(0), WILD);
        Edges.dueNumber("x0 of the second yet", x.between(0, 0, 0, 0), 1.0);
        Edges.dueNumber("x1 of the second yet", x.between(0, 0, 1, 0), 2.0);
        x.halves(0, 0);
        x.set(0, 0, 77, 0);
        x.length(0, 5, 0);
        Edges.dueNumber("a state that is set is no step", x.between(0, 0, 1, 0), 2.0);
        MotionStepper y = Desks.jump();
        y.length(0, -1, 0);
        y.step(0);
        y.length(0, 1, 0);
        y.step(0);
        long middle = y.between(0, 0, 1, 1);
        y.length(0, 4, 0);
        Edges.due("refused", y.step(0), MotionStepper.SMALL);
        Edges.due("as ahead of it", y.between(0, 0, 1, 1), middle);
    }

    /** The middle is (x0 + x1) / 2 + h * (f0 - f1) / 8, here in numbers that do not round. */
    private static void endsOfTheStep() {
        // x0' = t * t, x1' = x0: f0 and f1 by time and by state, of each METHOD.
        for (int m = 0; m <= 6; m++) {
            LawMaker law = new LawMaker(new MotionStepper(), 2, 0);
            int time = law.time();
            law.side(0, law.node(4, time, time, 0)).side(1, law.state(0));
            law.run(2, 0);
            MotionStepper x = law.desk;
            x.method(0, m);
            x.tolerance(0, Long.MAX_VALUE, 0, 0);
            x.set(0, 0, 5, 0);
            x.set(0, 1, -3, 0);
            x.length(0, 4, 0);
            Edges.due("step", x.step(0), 0);
            double[] end = {number(x.state(0, 0)), number(x.state(0, 1))};
            double[] f0 = {4, 5};
            double[] f1 = {36, end[0]};
            double[] start = {5, -3};
            // What comes later is no part of the step.
            x.set(0, 0, 99, 0);
            x.length(0, -7, 0);
            x.method(0, 0);
            for (int i = 0; i < 2; i++) {
                double want = 0.25 * (2 * start[i] + 2 * f0[i]) + 0.25 * (2 * end[i] - 2 * f1[i]);
                Edges.dueNumber("METHOD " + m + ", variable " + i, x.between(0, i, 1, 1), want);
                Edges.dueNumber("x0", x.between(0, i, 0, 0), start[i]);
                Edges.dueNumber("x1", x.between(0, i, 1, 0), end[i]);
            }
        }
        // t0 + h is the end, though a CUT step brings the time to T: f is 64 from t0 + h on, else 0.
        double t0 = -7969177 * 0x1p-30 + 214748365 * 0x1p-30 * (5 * 0x1p-30);
        double target = 1258291 * 0x1p-30;
        double end = t0 + (target - t0);
        Edges.dueTrue("t0 + h is behind T", end > target);
        LawMaker law = new LawMaker(new MotionStepper(), 2, 0);
        law.side(0, law.constant(1, 0));
        law.side(1, law.table(law.time(), new double[] {end}, new double[] {0, 64}));
        int above = law.node(3, law.state(0), law.constant(1, 30), 0);
        law.run(-7969177, 30);
        MotionStepper x = law.desk;
        x.length(0, 5, 30);
        x.event(0, above, 1, 3, 0);
        x.step(0);
        x.length(0, 1, 0);
        Edges.dueNumber("t0", x.clock(0, 0), t0);
        Edges.due("to T", x.to(0, 1258291, 30, 1), 1);
        Edges.dueNumber("T", x.clock(0, 0), target);
        double h = target - t0;
        Edges.dueNumber("f1 is 64", x.between(0, 1, 1, 1), 0.25 * 0.0 + 0.25 * (0.0 - (0.5 * h) * 64));
    }

    private static void asTaken() {
        // x' is a SIGNAL of time, whose POINTS come behind the step: f at 0 and at 1 are others then.
        MotionStepper x = new MotionStepper();
        x.signal(1);
        LawMaker law = new LawMaker(x, 1, 0);
        int q = law.node(12, law.time(), 0, 0);
        law.side(0, q);
        law.run(0, 0);
        x.length(0, 1, 0);
        x.set(0, 0, 3, 0);
        x.step(0);
        x.keep(0, 0);
        Edges.dueNumber("it stands", x.between(0, 0, 1, 1), 3.0);
        x.point(0, 0, 64, 0);
        x.point(0, 1, 640, 0);
        Edges.dueNumber("f is another", x.value(0, q), 640.0);
        Edges.dueNumber("f0 and f1 aren't", x.between(0, 0, 1, 1), 3.0);
        Edges.dueNumber("k1 isn't", x.stage(0, 1, 0), 0.0);
        x.run(0, 0, 0);
        x.back(1, 0);
        Edges.dueNumber("nor what is kept", x.between(1, 0, 1, 1), 3.0);
    }

    private static void endsOfBetween() {
        // f1 isn't FINITE: what is reckoned at 1 would be none.
        double[] ends = {INFINITY, -INFINITY, NAN};
        for (double a : ends) {
            LawMaker law = new LawMaker(new MotionStepper(), 1, 0);
            law.side(0, law.table(law.time(), new double[] {1}, new double[] {2, a}));
            law.run(0, 0);
            MotionStepper x = law.desk;
            x.length(0, 1, 0);
            x.set(0, 0, 5, 0);
            Edges.due("step", x.step(0), 0);
            Edges.dueNumber("x0", x.between(0, 0, 0, 0), 5.0);
            Edges.dueNumber("x0", x.between(0, 0, 0, 30), 5.0);
            Edges.dueNumber("x1", x.between(0, 0, 1, 0), 7.0);
            Edges.dueNumber("x1", x.between(0, 0, UNIT, 30), 7.0);
            Edges.dueNumber("the first behind 0", x.between(0, 0, 1, 30), -a);
            Edges.dueNumber("the last ahead of 1", x.between(0, 0, UNIT - 1, 30), -a);
            Edges.dueNumber("x0 again", x.between(0, 0, 0, 0), 5.0);
            Edges.dueNumber("the middle", x.between(0, 0, 1, 1), -a);
            Edges.dueNumber("x1 again", x.between(0, 0, 1, 0), 7.0);
        }
        // x0 is -0.0, which a sum with 0.0 would lose.
        Timed timed = new Timed();
        timed.desk.set(0, 0, -1, 0);
        timed.eventOf(timed.law.node(3, timed.time, timed.law.constant(1, 0), 0), 1, 2, 0);
        timed.desk.step(0);
        Edges.dueNumber("-0.0", timed.desk.state(0, 0), -0.0);
        timed.desk.step(0);
        Edges.dueNumber("x0 is -0.0", timed.desk.between(0, 0, 0, 0), -0.0);
    }

    private static void cubic() {
        for (int narrow = 0; narrow < 4; narrow++) {
            MotionStepper x = Desks.swing(narrow);
            x.set(0, 0, 10000000000000001L, 30);
            x.set(0, 1, -123456789123L, 29);
            x.length(0, 13, 5);
            x.method(0, 3);
            double[] x0 = {number(x.state(0, 0)), number(x.state(0, 1))};
            double[] f0 = {x0[1], 1.0 - x0[0]};
            x.step(0);
            double h = 13 / 32.0;
            double[] x1 = {number(x.state(0, 0)), number(x.state(0, 1))};
            double[] f1 = {x1[1], (1.0 + h) - x1[0]};
            long[] parts = {1, 2, 12345, UNIT / 3, UNIT / 2, UNIT - 7, UNIT - 1};
            for (long n : parts) {
                double s = n * 0x1p-30, u = 1 - s;
                for (int i = 0; i < 2; i++) {
                    double want = (u * u) * ((1 + 2 * s) * x0[i] + (s * h) * f0[i])
                        + (s * s) * ((1 + 2 * u) * x1[i] - (u * h) * f1[i]);
                    boolean put = (narrow >> i & 1) == 1;
                    Edges.dueNumber("at " + s, x.between(0, i, n, 30), put ? (float) want : want);
                }
            }
        }
    }

    private static double number(long bits) {
        return Double.longBitsToDouble(bits);
    }

    private static void timeOfBetween() {
        // Times behind 2^52 are whole ones: t0 + s * h is 2^52 + 1 for each s above a half.
        LawMaker law = new LawMaker(new MotionStepper(), 1, 0);
        law.side(0, law.constant(1, 0));
        int q = law.node(3, law.time(), law.constant((1L << 52) + 1, 0), 0);
        law.run(1L << 52, 0);
        MotionStepper x = law.desk;
        x.length(0, 1, 0);
        x.event(0, q, 1, 3, 0);
        Edges.due("step", x.step(0), 0);
        Edges.dueNumber("fired at", x.fired(0, 0, 1), 0x1p52 + 1);
        Edges.dueNumber("time", x.clock(0, 0), 0x1p52 + 1);
        Edges.due("state", x.state(0, 0), x.between(0, 0, UNIT / 2 + 1, 30));
        // Back in time: s * h is below 0.
        Timed back = new Timed().event(new double[] {-0.25}, new double[] {1, -1}, 1, 3);
        back.desk.length(0, -1, 0);
        back.desk.step(0);
        Edges.dueNumber("the first behind -0.25", back.desk.fired(0, 0, 1), -0.25 - 0x1p-30);
        Edges.dueNumber("time", back.desk.clock(0, 0), -0.25 - 0x1p-30);
    }

    private static void betweenOfARun() {
        // Each of six VARIABLES goes its own straight way, in two RUNS of one LAW.
        LawMaker law = new LawMaker(new MotionStepper(), 6, 0);
        for (int i = 0; i < 6; i++) {
            law.side(i, law.constant(1 << i, 0));
        }
        law.run(0, 0);
        law.run(0, 0);
        MotionStepper x = law.desk;
        x.set(1, 3, 1000, 0);
        x.length(0, 1, 0);
        x.length(1, -2, 0);
        x.step(0);
        x.step(1);
        long[] parts = {0, 1, 2, 3, 4};
        for (long n : parts) {
            for (int k = 2; k <= 30; k += 14) {
                for (int i = 0; i < 6; i++) {
                    double way = (1 << i) * n / 4.0;
                    String what = "variable " + i + " at " + n + " / 4";
                    Edges.dueNumber(what, x.between(0, i, n << k - 2, k), way);
                    double start = i == 3 ? 1000 : 0;
                    Edges.dueNumber(what, x.between(1, i, n << k - 2, k), start - 2 * way);
                }
            }
        }
    }

    private static void noBetween() {
        MotionStepper x = Desks.swing(0);
        Edges.due("no step yet", x.between(0, 0, 0, 0), NONE);
        Edges.due("no step yet", x.between(0, 1, 1, 1), NONE);
        x.step(0);
        int[] runs = {MIN, -1, 1, 3, 4, MAX};
        for (int r : runs) {
            Edges.due("between of run " + r, x.between(r, 0, 0, 0), NONE);
        }
        int[] variables = {MIN, -1, 2, 5, 6, MAX};
        for (int i : variables) {
            Edges.due("between of variable " + i, x.between(0, i, 0, 0), NONE);
        }
        int[] powers = {MIN, -1, 31, 32, MAX};
        for (int k : powers) {
            Edges.due("between, k " + k, x.between(0, 0, 0, k), NONE);
        }
        for (int k = 0; k <= 30; k++) {
            Edges.dueNumber("0 / 2^" + k, x.between(0, 0, 0, k), 3.0);
            Edges.due("1, k " + k, x.between(0, 0, 1L << k, k), x.state(0, 0));
            Edges.due("above 1, k " + k, x.between(0, 0, (1L << k) + 1, k), NONE);
            Edges.due("below 0, k " + k, x.between(0, 0, -1, k), NONE);
        }
        Edges.due("MAX", x.between(0, 0, Long.MAX_VALUE, 30), NONE);
        Edges.due("MIN", x.between(0, 0, Long.MIN_VALUE, 30), NONE);
        x.keep(0, 0);
        x.run(0, 0, 0);
        Edges.due("no step of another run", x.between(1, 0, 0, 0), NONE);
        x.back(1, 0);
        Edges.dueNumber("one that is brought back has one", x.between(1, 0, 0, 0), 3.0);
    }

    // ---- EVENTS

    private static void fourEvents() {
        MotionStepper x = Desks.climb();
        for (int j = 0; j < 4; j++) {
            Edges.due("event " + j, x.event(0, 3, 1, 0, 0), j);
        }
        Edges.due("event 4", x.event(0, 3, 1, 0, 0), FULL);
        x.step(0);
        Edges.due("all four fired", x.count(0, 7), 4);
        Edges.due("the last one", x.fired(0, 3, 0), 3);
        // Each has a NODE, a direction and an action of its own.
        LawMaker law = new LawMaker(new MotionStepper(), 1, 0);
        int time = law.time();
        int rise = law.node(3, time, law.number(0.25), 0);
        int fall = law.node(3, law.number(0.5), time, 0);
        law.side(0, law.constant(1, 0));
        law.run(0, 0);
        MotionStepper y = law.desk;
        y.length(0, 1, 0);
        y.event(0, rise, -1, 1, 0);
        y.event(0, fall, -1, 2, 0);
        y.event(0, rise, 1, 0, 0);
        y.event(0, fall, 1, 1, 0);
        y.step(0);
        dueFired("a rise and a fall", y, 2, 1);
        Edges.due("not ended", y.count(0, 5), 0);
        Edges.dueNumber("negated", y.state(0, 0), -0.5);
        y.length(0, -1, 0);
        y.step(0);
        dueFired("back in time: the fall of the first one", y, 2, 1, 0);
        Edges.due("ended", y.count(0, 5), 1);
    }

    /** The NODE's values on the way, between steps and at other ends do not count. */
    private static void endsOfEvents() {
        // Below 0 at both ends, above it in the middle; and the other way round.
        double[] limits = {0.25, 0.75};
        for (int direction = -1; direction <= 1; direction++) {
            Timed hill = new Timed().event(limits, new double[] {-1, 1, -1}, direction, 0);
            hill.desk.step(0);
            Edges.due("a hill by " + direction, hill.desk.count(0, 7), 0);
            Timed valley = new Timed().event(limits, new double[] {1, -1, 1}, direction, 0);
            valley.desk.step(0);
            Edges.due("a valley by " + direction, valley.desk.count(0, 7), 0);
        }
        // By state: a is looked at x0, b at x1, which set() and actions do not join.
        MotionStepper x = Desks.climb();
        x.event(0, 3, 1, 0, 0);
        x.set(0, 0, -5, 0);
        x.step(0);
        x.set(0, 0, 7, 0);
        Edges.due("set() is no step", x.count(0, 7), 0);
        x.step(0);
        Edges.due("above at both ends", x.count(0, 7), 0);
        x.set(0, 0, 0, 0);
        x.step(0);
        Edges.due("from below to 0", x.count(0, 7), 1);
        x.step(0);
        Edges.due("from 0 on", x.count(0, 7), 1);
        // At t0 + h, x1 at once: x - t is below 0 at the one, 0 at both.
        MotionStepper y = Desks.climb();
        int q = y.node(0, 3, 1, 0, 0);
        y.set(0, 0, -1, 0);
        y.event(0, q, 0, 0, 0);
        y.step(0);
        Edges.due("x - t stays at -1", y.count(0, 7), 0);
        // A step that isn't TAKEN is not looked at.
        Timed wild = new Timed();
        int rise = wild.law.node(3, wild.time, wild.law.number(0.5), 0);
        LawMaker other = new LawMaker(wild.desk, 1, 0);
        int time = other.time();
        int above = other.node(3, time, other.number(0.5), 0);
        other.side(0, other.number(INFINITY));
        int r = other.run(0, 0);
        wild.desk.length(r, 1, 0);
        wild.desk.event(r, above, 1, 1, 0);
        wild.eventOf(rise, 1, 0, 0);
        Edges.due("wild", wild.desk.step(r), WILD);
        Edges.due("none FIRED", wild.desk.count(r, 7), 0);
        Edges.due("not ended", wild.desk.count(r, 5), 0);
        wild.desk.step(0);
        Edges.due("one that is TAKEN", wild.desk.count(0, 7), 1);
    }

    private static final double[] SIGNS =
        {-INFINITY, -1, -LEAST, -0.0, 0.0, LEAST, 1, INFINITY, NAN};

    /** A NODE that is a up to time 0.5 and b from there on, in a step from 0 to 1. */
    private static MotionStepper turn(double a, double b, int direction) {
        Timed timed = new Timed().event(new double[] {0.5}, new double[] {a, b}, direction, 0);
        Edges.due("step", timed.desk.step(0), 0);
        return timed.desk;
    }

    private static void rises() {
        for (double a : SIGNS) {
            for (double b : SIGNS) {
                boolean rise = a < 0 && b >= 0;
                boolean fall = a > 0 && b <= 0;
                MotionStepper x = turn(a, b, 1);
                Edges.due("from " + a + " to " + b + " by 1", x.count(0, 7), rise ? 1 : 0);
                Edges.dueNumber("the state is the whole step's", x.state(0, 0), 1.0);
                if (rise) {
                    Edges.dueNumber("from " + a + " to " + b, x.fired(0, 0, 1), 0.5);
                }
                MotionStepper y = turn(a, b, 0);
                Edges.due("from " + a + " to " + b + " by 0", y.count(0, 7), rise || fall ? 1 : 0);
            }
        }
    }

    private static void falls() {
        for (double a : SIGNS) {
            for (double b : SIGNS) {
                boolean fall = a > 0 && b <= 0;
                MotionStepper x = turn(a, b, -1);
                Edges.due("from " + a + " to " + b + " by -1", x.count(0, 7), fall ? 1 : 0);
                if (fall) {
                    Edges.dueNumber("from " + a + " to " + b, x.fired(0, 0, 1), 0.5);
                    Edges.dueNumber("by 0, too", turn(a, b, 0).fired(0, 0, 1), 0.5);
                }
            }
        }
    }

    private static void thirtyTimes() {
        double[] limits = {LEAST, 0x1p-31, 0x1p-30, 0x1.1p-30, 0x1p-29, 1 / 3.0, 0.5, 0.7, 1 - 0x1p-30,
            1 - 0x1p-31, 1.0};
        for (double c : limits) {
            double want = highFor(c);
            Timed rise = new Timed().event(new double[] {c}, new double[] {-1, 1}, 1, 0);
            rise.desk.step(0);
            Edges.dueNumber("a rise at " + c, rise.desk.fired(0, 0, 1), want);
            Timed fall = new Timed().event(new double[] {c}, new double[] {1, -1}, -1, 0);
            fall.desk.step(0);
            Edges.dueNumber("a fall at " + c, fall.desk.fired(0, 0, 1), want);
        }
        // By a step of 1024 a 30th part is 2^-20.
        Timed far = new Timed().event(new double[] {LEAST}, new double[] {-1, 1}, 1, 3);
        far.desk.length(0, 1024, 0);
        far.desk.step(0);
        Edges.dueNumber("2^-30 of 1024", far.desk.fired(0, 0, 1), 0x1p-20);
        Edges.dueNumber("its time", far.desk.clock(0, 0), 0x1p-20);
    }

    private static void sideOfB() {
        double[] zeros = {0.0, -0.0};
        for (double zero : zeros) {
            // 0 from 0.25 on is on b's side, both ways.
            double[] limits = {0.25, 0.75};
            Timed rise = new Timed().event(limits, new double[] {-1, zero, 1}, 0, 0);
            rise.desk.step(0);
            Edges.dueNumber("a rise by " + zero, rise.desk.fired(0, 0, 1), 0.25);
            Timed fall = new Timed().event(limits, new double[] {1, zero, -1}, 0, 0);
            fall.desk.step(0);
            Edges.dueNumber("a fall by " + zero, fall.desk.fired(0, 0, 1), 0.25);
            // b is 0: what is above it is on its side at the rise, what is below it at the fall.
            Timed up = new Timed().event(limits, new double[] {-1, 1, zero}, 0, 0);
            up.desk.step(0);
            Edges.dueNumber("a rise above " + zero, up.desk.fired(0, 0, 1), 0.25);
            Timed down = new Timed().event(limits, new double[] {1, -1, zero}, 0, 0);
            down.desk.step(0);
            Edges.dueNumber("a fall below " + zero, down.desk.fired(0, 0, 1), 0.25);
        }
        // What is none is on neither side.
        Timed none = new Timed().event(new double[] {0.25, 0.75}, new double[] {-1, NAN, 1}, 1, 0);
        none.desk.step(0);
        Edges.dueNumber("none in the middle of a rise", none.desk.fired(0, 0, 1), 0.75);
        Timed falling = new Timed().event(new double[] {0.25, 0.75}, new double[] {1, NAN, -1}, -1, 0);
        falling.desk.step(0);
        Edges.dueNumber("none in the middle of a fall", falling.desk.fired(0, 0, 1), 0.75);
        // Three turns: the middle decides which one is found.
        double[] three = {0.2, 0.4, 0.6};
        Timed late = new Timed().event(three, new double[] {-1, 1, -1, 1}, 1, 0);
        late.desk.step(0);
        Edges.dueNumber("the third turn", late.desk.fired(0, 0, 1), highFor(0.6));
        Timed early = new Timed().event(new double[] {0.2, 0.6, 0.8}, new double[] {-1, 1, -1, 1}, 1, 0);
        early.desk.step(0);
        Edges.dueNumber("the first turn", early.desk.fired(0, 0, 1), highFor(0.2));
        // By BETWEEN's state: x' is 4 at 0 and 0 at 0.5, so x is 1 + 1/2 on the cubic's way to 4.
        LawMaker law = new LawMaker(new MotionStepper(), 1, 0);
        law.side(0, law.table(law.time(), new double[] {0.5}, new double[] {4, 0}));
        int q = law.node(3, law.state(0), law.constant(5, 1), 0);
        law.run(0, 0);
        MotionStepper x = law.desk;
        x.length(0, 1, 0);
        x.event(0, q, 1, 3, 0);
        x.step(0);
        Edges.dueNumber("x(0.5) is 2.5", x.fired(0, 0, 1), 0.5);
        Edges.dueNumber("the state", x.state(0, 0), 2.5);
    }

    private static void dueFired(String what, MotionStepper x, int... numbers) {
        Edges.due(what + ", how many", x.count(0, 7), numbers.length);
        for (int j = 0; j < numbers.length; j++) {
            Edges.due(what + ", the one at " + j, x.fired(0, j, 0), numbers[j]);
        }
        Edges.due(what + ", no more", x.fired(0, numbers.length, 0), NONE);
    }

    private static void order() {
        Timed x = new Timed().rise(0.5, 0).rise(0.25, 0).rise(0.5, 0).rise(0.25, 0);
        x.desk.step(0);
        dueFired("pairs of equals", x.desk, 1, 3, 0, 2);
        Timed y = new Timed().rise(1.0, 0).rise(0.75, 0).rise(0.5, 0).rise(LEAST, 0);
        y.desk.set(0, 0, 5, 0);
        y.desk.length(0, 2, 0);
        y.desk.step(0);
        // A rise from below: t - LEAST is below 0 at 0.
        dueFired("falling highs", y.desk, 3, 2, 1, 0);
        Timed z = new Timed().rise(0.25, 0).rise(0.25, 0).rise(0.25, 0).rise(0.25, 0);
        z.desk.step(0);
        dueFired("four equals", z.desk, 0, 1, 2, 3);
        // Apart as times, one as highs: both come at 2^-30 * 5.
        Timed w = new Timed().rise(5 * 0x1p-30, 0).rise(9 * 0x1p-31, 0);
        w.desk.step(0);
        dueFired("equal highs", w.desk, 0, 1);
        Timed v = new Timed().rise(5 * 0x1p-30, 0).rise(4 * 0x1p-30, 0);
        v.desk.step(0);
        dueFired("the next high", v.desk, 1, 0);
    }

    private static void untilAction() {
        for (int action = 1; action <= 3; action++) {
            Timed x = new Timed().rise(0.5, action).rise(0.25, 0).rise(0.5, 0).rise(0.75, 0);
            x.desk.step(0);
            dueFired("with action " + action, x.desk, 1, 0);
            Edges.dueNumber("its time", x.desk.clock(0, 0), 0.5);
            Timed y = new Timed().rise(0.5, 0).rise(0.25, 0).rise(0.5, action).rise(0.75, 0);
            y.desk.step(0);
            dueFired("action " + action + " behind its equal", y.desk, 1, 0, 2);
            Timed z = new Timed().rise(0.5, action).rise(0.25, action).rise(0.75, 0);
            z.desk.step(0);
            dueFired("the earlier of two", z.desk, 1);
            Edges.dueNumber("its time", z.desk.clock(0, 0), 0.25);
            Timed w = new Timed().rise(0.5, 0).rise(0.25, 0).rise(0.75, 0).rise(1.0, action);
            w.desk.step(0);
            dueFired("the last one", w.desk, 1, 0, 2, 3);
            Timed v = new Timed().rise(0.5, action).rise(2.0, 0);
            v.desk.step(0);
            dueFired("beside one that does not come", v.desk, 0);
        }
    }

    private static void broughtBack() {
        Timed x = new Timed().rise(0.5, 0);
        x.desk.step(0);
        Edges.dueNumber("action 0 brings nothing back", x.desk.clock(0, 0), 1.0);
        Edges.dueNumber("nor the state", x.desk.state(0, 0), 1.0);
        sixBroughtBack();
        double[] limits = {LEAST, 1 / 3.0, 0.5, 1 - 0x1p-30, 1.0};
        for (double c : limits) {
            LawMaker law = new LawMaker(new MotionStepper(), 2, 2);
            MotionStepper y = law.desk;
            int time = law.time();
            law.side(0, law.state(1)).side(1, law.node(3, time, law.state(0), 0));
            int q = law.table(time, new double[] {c}, new double[] {-1, 1});
            law.run(0, 0);
            y.set(0, 0, 3, 0);
            y.set(0, 1, 2, 0);
            y.length(0, 1, 0);
            y.method(0, 2);
            y.event(0, q, 0, 3, 0);
            y.step(0);
            double high = highFor(c);
            Edges.dueNumber("time", y.clock(0, 0), high);
            for (int i = 0; i < 2; i++) {
                Edges.due("state " + i, y.state(0, i), y.between(0, i, (long) (high * UNIT), 30));
            }
        }
    }

    /** All of six VARIABLES are brought back. */
    private static void sixBroughtBack() {
        LawMaker law = new LawMaker(new MotionStepper(), 6, 0);
        int time = law.time();
        for (int i = 0; i < 6; i++) {
            law.side(i, law.constant(1 + i, 0));
        }
        int q = law.node(3, time, law.number(0.25), 0);
        law.run(0, 0);
        MotionStepper x = law.desk;
        x.length(0, 1, 0);
        x.event(0, q, 1, 2, 5);
        x.step(0);
        Edges.dueNumber("time", x.clock(0, 0), 0.25);
        for (int i = 0; i < 6; i++) {
            double there = 0.25 * (1 + i);
            Edges.dueNumber("variable " + i, x.state(0, i), i == 5 ? -there : there);
        }
    }

    private static void ends() {
        Timed x = new Timed().rise(0.5, 1);
        x.desk.step(0);
        Edges.due("ended", x.desk.count(0, 5), 1);
        Edges.dueNumber("state", x.desk.state(0, 0), 0.5);
        Edges.dueNumber("time", x.desk.clock(0, 0), 0.5);
        Edges.due("no step any more", x.desk.step(0), MotionStepper.STATE);
        Timed y = new Timed().rise(1.0, 1);
        y.desk.step(0);
        Edges.due("ended at 1", y.desk.count(0, 5), 1);
        Edges.dueNumber("time", y.desk.clock(0, 0), 1.0);
        // w counts for action 2 alone.
        Timed z = new Timed();
        z.eventOf(z.law.node(3, z.time, z.law.number(0.5), 0), 1, 1, 0);
        z.desk.step(0);
        Edges.dueNumber("not negated", z.desk.state(0, 0), 0.5);
        for (int action = 0; action <= 3; action++) {
            Timed w = new Timed().rise(0.5, action);
            w.desk.step(0);
            Edges.due("action " + action, w.desk.count(0, 5), action == 1 ? 1 : 0);
        }
    }

    private static void negates() {
        int[] targets = {MIN, -1, 0, 1, 2, 3, 5, 6, MAX};
        for (int w : targets) {
            LawMaker law = new LawMaker(new MotionStepper(), 3, 0);
            int one = law.constant(1, 0);
            int q = law.node(3, law.time(), one, 0);
            for (int i = 0; i < 3; i++) {
                law.side(i, one);
            }
            law.run(0, 0);
            MotionStepper x = law.desk;
            for (int i = 0; i < 3; i++) {
                x.set(0, i, 10 * i, 0);
            }
            x.length(0, 4, 0);
            x.event(0, q, 1, 2, w);
            x.step(0);
            int negated = w >= 0 && w < 3 ? w : 0;
            for (int i = 0; i < 3; i++) {
                double there = 1 + 10 * i;
                Edges.dueNumber("variable " + i + ", w " + w, x.state(0, i), i == negated ? -there : there);
            }
            Edges.dueNumber("time", x.clock(0, 0), 1.0);
            Edges.due("not ended", x.count(0, 5), 0);
        }
        Timed zero = new Timed().rise(1.0, 2);
        zero.desk.set(0, 0, -1, 0);
        zero.desk.step(0);
        Edges.dueNumber("0.0", zero.desk.state(0, 0), -0.0);
    }

    private static void nothingMore() {
        Timed x = new Timed();
        x.eventOf(x.law.node(3, x.time, x.law.number(0.5), 0), 1, 3, 0);
        x.desk.step(0);
        Edges.dueNumber("state", x.desk.state(0, 0), 0.5);
        Edges.dueNumber("time", x.desk.clock(0, 0), 0.5);
        Edges.due("not ended", x.desk.count(0, 5), 0);
        Edges.dueNumber("the LENGTH", x.desk.clock(0, 1), 1.0);
        Edges.due("the next step", x.desk.step(0), 0);
        Edges.dueNumber("from there on", x.desk.clock(0, 0), 1.5);
        Edges.due("it came once", x.desk.count(0, 7), 1);
    }

    private static void behindIt() {
        // The equal one is lost, as it does not come from 0; the later one comes in the next step.
        Timed x = new Timed().rise(0.5, 3).rise(0.5, 0).rise(0.75, 0);
        x.desk.step(0);
        dueFired("the first step", x.desk, 0);
        x.desk.step(0);
        dueFired("the second step", x.desk, 0, 2);
        Edges.dueNumber("when", x.desk.fired(0, 1, 1), 0.75);
    }

    private static void wholeStep() {
        for (int action = 1; action <= 3; action++) {
            Timed x = new Timed().rise(0.25, action);
            x.desk.set(0, 0, 8, 0);
            x.desk.step(0);
            Edges.dueNumber("x0", x.desk.between(0, 0, 0, 0), 8.0);
            Edges.dueNumber("x1", x.desk.between(0, 0, 1, 0), 9.0);
            Edges.dueNumber("the middle", x.desk.between(0, 0, 1, 1), 8.5);
            Edges.dueNumber("h", x.desk.clock(0, 3), 1.0);
            Edges.due("one step", x.desk.count(0, 2), 1);
        }
    }

    /** x goes from -1 to 1 in each step of 2, where the last EVENT negates it. */
    private static MotionStepper bounce(int events) {
        MotionStepper x = Desks.climb();
        x.set(0, 0, -1, 0);
        x.length(0, 2, 0);
        for (int j = 0; j < events; j++) {
            x.event(0, 3, 1, j == events - 1 ? 2 : 0, 0);
        }
        return x;
    }

    private static void sixtyFour() {
        for (int events = 1; events <= 4; events++) {
            MotionStepper x = bounce(events);
            for (int fired = 0; fired < 70; fired += events) {
                Edges.due("how many", x.count(0, 7), fired);
                Edges.due("the last one", x.fired(0, fired - 1, 0),
                    fired == 0 || fired > 64 ? NONE : events - 1);
                Edges.due("no next one", x.fired(0, fired, 0), NONE);
                x.step(0);
            }
            for (int j = 0; j < 64; j++) {
                Edges.due("number " + j, x.fired(0, j, 0), j % events);
                Edges.dueNumber("time " + j, x.fired(0, j, 1), 2.0 + 2 * (j / events));
            }
            for (int j = 64; j < 70; j++) {
                Edges.due("the first 64 alone", x.fired(0, j, 0), NONE);
                Edges.due("the first 64 alone", x.fired(0, j, 1), NONE);
            }
        }
        // Over the whole life: through METHODS, and back in a RUN of its own.
        MotionStepper y = bounce(1);
        y.step(0);
        y.method(0, 3);
        y.step(0);
        y.keep(0, 0);
        y.step(0);
        Edges.due("three", y.count(0, 7), 3);
        y.back(0, 0);
        Edges.due("two", y.count(0, 7), 2);
        Edges.due("no third one", y.fired(0, 2, 0), NONE);
        Edges.dueNumber("the second one", y.fired(0, 1, 1), 4.0);
    }

    private static void numberAndTime() {
        Timed x = new Timed().rise(0.75, 0).rise(0.5, 0).rise(0.25, 0).rise(1 / 3.0, 0);
        x.desk.step(0);
        int[] numbers = {2, 3, 1, 0};
        double[] times = {0.25, highFor(1 / 3.0), 0.5, 0.75};
        for (int j = 0; j < 4; j++) {
            Edges.due("number", x.desk.fired(0, j, 0), numbers[j]);
            Edges.dueNumber("time", x.desk.fired(0, j, 1), times[j]);
        }
        // From a t0 and by an h of their own.
        Timed y = new Timed().rise(5.0, 0);
        y.desk.length(0, 3, 0);
        y.desk.step(0);
        y.desk.step(0);
        double high = highFor(2 / 3.0);
        Edges.dueNumber("t0 + high * h", y.desk.fired(0, 0, 1), 3.0 + high * 3.0);
    }

    private static void noneFired() {
        Timed x = new Timed().rise(0.5, 0).rise(0.75, 0);
        Edges.due("none yet", x.desk.fired(0, 0, 0), NONE);
        Edges.due("none yet", x.desk.fired(0, 0, 1), NONE);
        x.desk.step(0);
        int[] runs = {MIN, -1, 1, 3, 4, MAX};
        for (int r : runs) {
            Edges.due("fired of run " + r, x.desk.fired(r, 0, 0), NONE);
        }
        int[] wrong = {MIN, -1, 2, 63, 64, MAX};
        for (int j : wrong) {
            Edges.due("fired " + j, x.desk.fired(0, j, 0), NONE);
            Edges.due("fired " + j, x.desk.fired(0, j, 1), NONE);
        }
        int[] whats = {MIN, -1, 2, 3, MAX};
        for (int what : whats) {
            Edges.due("what " + what, x.desk.fired(0, 1, what), NONE);
        }
        Edges.due("the last one", x.desk.fired(0, 1, 0), 1);
        Edges.dueNumber("its time", x.desk.fired(0, 1, 1), 0.75);
    }
}
