/** Promises 9 to 14 and 17 to 21: what a RUN is made of, and what it tells. */
public final class EdgesOfRunsTest {
    private static final int NUMBER = MotionStepper.NUMBER;
    private static final int STATE = MotionStepper.STATE;
    private static final int FULL = MotionStepper.FULL;
    private static final int WILD = MotionStepper.WILD;
    private static final int SMALL = MotionStepper.SMALL;
    private static final long NONE = MotionStepper.NONE;
    private static final int MIN = Integer.MIN_VALUE;
    private static final int MAX = Integer.MAX_VALUE;
    /** Numbers of RUNS that are not there on a desk with one. */
    private static final int[] NO_RUNS = {MIN, -1, 1, 3, 4, MAX};
    private static final int[] NO_K = {MIN, -1, 31, 32, 64, MAX};

    public static void main(String[] args) {
        Edges.sentence("RUNS are numbered 0 to 3.", EdgesOfRunsTest::fourRuns);
        Edges.sentence("A RUN has a LAW, a time, states, a METHOD, a LENGTH (of steps, not 0), two "
            + "TOLERANCES, EVENTS, and counts.", EdgesOfRunsTest::whatARunHas);
        Edges.sentence("A RUN of a LAW comes, at time n / 2^k: its number", EdgesOfRunsTest::runComes);
        Edges.sentence("states 0.0, METHOD 0, LENGTH 0.125, TOLERANCES 2^-20 and 0.0, no EVENTS, no step "
            + "yet, counts 0.", EdgesOfRunsTest::newRun);
        Edges.sentence("NUMBER: there is no such LAW, k isn't 0 to 30; STATE: it isn't READY; FULL.",
            EdgesOfRunsTest::run);
        Edges.sentence("n / 2^k is put into VARIABLE i of a RUN: 1. NUMBER: there is no such RUN or "
            + "VARIABLE, k isn't 0 to 30; STATE: it is ENDED.", EdgesOfRunsTest::set);
        Edges.sentence("The METHOD of a RUN: 1. NUMBER: there is no such RUN, m isn't 0 to 6; STATE: it "
            + "is 6, and n is odd.", EdgesOfRunsTest::method);
        Edges.sentence("The LENGTH of a RUN is n / 2^k: 1. NUMBER: there is no such RUN, k isn't 0 to "
            + "30, or the size isn't 2^-30 to 1024.", EdgesOfRunsTest::length);
        Edges.sentence("The TOLERANCES of a RUN are a / 2^k and b / 2^k: 1.", EdgesOfRunsTest::tolerances);
        Edges.sentence("NUMBER: there is no such RUN, k isn't 0 to 30, a is below 1, or b below 0.",
            EdgesOfRunsTest::tolerance);
        Edges.sentence("An EVENT comes to a RUN: its number.", EdgesOfRunsTest::eventComes);
        Edges.sentence("NUMBER: there is no such RUN, its LAW has no NODE q, direction isn't -1 to 1, "
            + "action not 0 to 3 (w counts for action 2 alone); FULL: it has 4.",
            EdgesOfRunsTest::event);
        Edges.sentence("The state of VARIABLE i of a RUN; NONE: there is none such.",
            EdgesOfRunsTest::state);
        Edges.sentence("Of a RUN: what = 0 its time, 1 its LENGTH", EdgesOfRunsTest::timeAndLength);
        Edges.sentence("2 the ERROR of its latest step that was TAKEN (0.0 if that was no PAIR, or there "
            + "was none)", EdgesOfRunsTest::errorOfLatest);
        Edges.sentence("3 the length h of that step (0.0 without one).",
            EdgesOfRunsTest::lengthOfLatest);
        Edges.sentence("NONE: there is no such RUN, another what.", EdgesOfRunsTest::clock);
        Edges.sentence("Of a RUN: what = 0 its LAW, 1 its METHOD, 2 steps TAKEN, 3 steps REJECTED",
            EdgesOfRunsTest::firstCounts);
        Edges.sentence("4 the GAP of the latest step TAKEN (0 if that was not BACKWARD)",
            EdgesOfRunsTest::gapOfLatest);
        Edges.sentence("5 1 if it is ENDED, else 0", EdgesOfRunsTest::endedOrNot);
        Edges.sentence("6 EVENTS, 7 how many FIRED.", EdgesOfRunsTest::countsOfEvents);
        Edges.sentence("(What a refused call did isn't counted.)", EdgesOfRunsTest::refusedCounts);
        Edges.sentence("NUMBER: there is no such RUN, another what.", EdgesOfRunsTest::count);
        Edges.sentence("Of the latest step TAKEN of a RUN: kj (j is 1 to 4) of VARIABLE i; j = 5: e.",
            EdgesOfRunsTest::stagesOfLatest);
        Edges.sentence("NONE: there is no such RUN, VARIABLE, no such j by that step's METHOD (of "
            + "BACKWARD k2 is that of the sixth time), or no step yet.", EdgesOfRunsTest::stage);
        Edges.sentence("The value of NODE q of a RUN's LAW, at its state and time (not a number is told as "
            + "NONE). NONE: there is no such RUN or NODE.", EdgesOfRunsTest::value);
        Edges.end();
    }

    /** A RUN whose EVENT has ENDED it: climb(), x = 1 at time 1. */
    private static MotionStepper ended() {
        MotionStepper x = Desks.climb();
        x.event(0, 3, 1, 1, 0);
        x.step(0);
        return x;
    }

    private static void fourRuns() {
        MotionStepper x = new MotionStepper();
        x.law(1, 0);
        x.constant(0, 1, 0);
        x.side(0, 0, 0);
        for (int r = 0; r < 4; r++) {
            Edges.due("ahead of run " + r, x.step(r), NUMBER);
            Edges.due("run " + r, x.run(0, 10 * r, 0), r);
        }
        Edges.due("run 4", x.run(0, 0, 0), FULL);
        Edges.due("runs", x.many(2), 4);
        for (int r = 0; r < 4; r++) {
            Edges.dueNumber("time of " + r, x.clock(r, 0), 10.0 * r);
        }
        Edges.due("step of run 3", x.step(3), 0);
        Edges.due("step of run 4", x.step(4), NUMBER);
        for (int r = 0; r < 4; r++) {
            Edges.due("steps of run " + r, x.count(r, 2), r == 3 ? 1 : 0);
        }
    }

    /** RUN 1 of the same LAW changes in all that it has; RUN 0 has its own, and goes on as it would. */
    private static void whatARunHas() {
        Edges.Maker two = () -> {
            MotionStepper x = Desks.swing(0);
            x.run(0, 1, 0);
            x.method(0, 4);
            x.tolerance(0, 1, 1, 9);
            x.event(0, 1, 0, 2, 1);
            x.step(0);
            return x;
        };
        MotionStepper x = two.make();
        MotionStepper y = two.make();
        y.set(1, 0, 9, 0);
        y.set(1, 1, -9, 0);
        y.method(1, 5);
        y.length(1, -7, 3);
        y.tolerance(1, 5, 0, 0);
        y.event(1, 0, 1, 1, 0);
        y.event(1, 0, -1, 3, 0);
        y.step(1);
        for (int round = 0; round < 9; round++) {
            Edges.due("step", y.step(0), x.step(0));
            for (int what = 0; what < 8; what++) {
                Edges.due("count " + what, y.count(0, what), x.count(0, what));
            }
            for (int what = 0; what < 4; what++) {
                Edges.due("clock " + what, y.clock(0, what), x.clock(0, what));
            }
            Edges.due("state 0", y.state(0, 0), x.state(0, 0));
            Edges.due("state 1", y.state(0, 1), x.state(0, 1));
        }
        Edges.dueNumber("its own time", y.clock(1, 0), 0.125);
        Edges.dueNumber("its own LENGTH", y.clock(1, 1), -0.875);
        int[] counts = {0, 5, 1, 0, 2, 0, 2};
        for (int what = 0; what < counts.length; what++) {
            Edges.due("its own count " + what, y.count(1, what), counts[what]);
        }
        // The LENGTH is never 0.
        Edges.due("a LENGTH of 0", y.length(1, 0, 0), NUMBER);
        Edges.due("a LENGTH of 0 / 2^30", y.length(1, 0, 30), NUMBER);
        Edges.dueNumber("it is as it was", y.clock(1, 1), -0.875);
    }

    private static void runComes() {
        MotionStepper x = Desks.climb();
        LawMaker law = new LawMaker(x, 2, 0);
        int q = law.constant(5, 0);
        law.side(0, q).side(1, q);
        long[] times = {-7, 1L << 40, 3};
        int[] powers = {0, 30, 2};
        for (int i = 0; i < times.length; i++) {
            int l = i == 1 ? 0 : law.law;
            Edges.due("refused", x.run(l, 0, -1), NUMBER);
            Edges.due("the next number", x.run(l, times[i], powers[i]), 1 + i);
            Edges.due("its LAW", x.count(1 + i, 0), l);
            Edges.dueNumber("its time", x.clock(1 + i, 0), times[i] / Math.pow(2, powers[i]));
            Edges.due("runs", x.many(2), 2 + i);
        }
        Edges.due("its variables", x.set(1, 1, 1, 0), 1);
        Edges.due("those of the other LAW", x.set(2, 1, 1, 0), NUMBER);
    }

    private static void newRun() {
        for (int n = 1; n <= 6; n++) {
            LawMaker law = new LawMaker(new MotionStepper(), n, 0);
            law.constant(-3, 0);
            for (int i = 0; i < n; i++) {
                law.side(i, 0);
            }
            MotionStepper x = law.desk;
            int r = law.run(-7, 2);
            for (int i = 0; i < n; i++) {
                Edges.dueNumber("state " + i, x.state(r, i), 0.0);
                Edges.due("no step yet", x.stage(r, 1, i), NONE);
                Edges.due("no step yet", x.between(r, i, 0, 0), NONE);
            }
            double[] clock = {-1.75, 0.125, 0.0, 0.0};
            for (int what = 0; what < 4; what++) {
                Edges.dueNumber("clock " + what, x.clock(r, what), clock[what]);
            }
            for (int what = 0; what < 8; what++) {
                Edges.due("count " + what, x.count(r, what), 0);
            }
            Edges.due("none fired", x.fired(r, 0, 0), NONE);
        }
        // The TOLERANCES: with x of 2^20 a second one above 0.0 would show.
        MotionStepper x = Desks.decay();
        x.set(0, 0, 1 << 20, 0);
        x.method(0, 4);
        x.length(0, 1, 10);
        Edges.dueTrue("a PAIR", x.step(0) >= 0);
        double e = Double.longBitsToDouble(x.stage(0, 5, 0));
        Edges.dueTrue("it has an e", e != 0.0);
        Edges.dueNumber("2^-20 and 0.0", x.clock(0, 2), Math.abs(e) / 0x1p-20);
    }

    private static void run() {
        MotionStepper x = new MotionStepper();
        x.law(1, 0);
        x.law(2, 0);
        x.constant(0, 1, 0);
        x.constant(1, 1, 0);
        x.side(0, 0, 0);
        x.side(1, 1, 0);
        int[] laws = {MIN, -1, 2, 8, MAX};
        for (int l : laws) {
            Edges.due("run of law " + l, x.run(l, 0, 0), NUMBER);
        }
        for (int k : NO_K) {
            Edges.due("run, k " + k, x.run(0, 0, k), NUMBER);
            Edges.due("run of what is not ready, k " + k, x.run(1, 0, k), NUMBER);
        }
        Edges.due("what is not ready", x.run(1, 0, 0), STATE);
        Edges.due("runs", x.many(2), 0);
        Edges.due("k 30", x.run(0, Long.MAX_VALUE, 30), 0);
        Edges.dueNumber("time", x.clock(0, 0), 0x1p33);
        Edges.due("k 0", x.run(0, Long.MIN_VALUE, 0), 1);
        Edges.dueNumber("time", x.clock(1, 0), -0x1p63);
        x.run(0, 0, 0);
        x.run(0, 0, 0);
        Edges.due("a fifth one", x.run(0, 0, 0), FULL);
        Edges.due("a fifth one of what is not ready", x.run(1, 0, 0), STATE);
        Edges.due("a fifth one, k 31", x.run(0, 0, 31), NUMBER);
        Edges.due("a fifth one of no law", x.run(2, 0, 0), NUMBER);
    }

    private static void set() {
        MotionStepper x = Desks.swing(0);
        for (int r : NO_RUNS) {
            Edges.due("set of run " + r, x.set(r, 0, 1, 0), NUMBER);
        }
        int[] variables = {MIN, -1, 2, 5, MAX};
        for (int i : variables) {
            Edges.due("set of variable " + i, x.set(0, i, 1, 0), NUMBER);
        }
        for (int k : NO_K) {
            Edges.due("set, k " + k, x.set(0, 0, 1, k), NUMBER);
        }
        Edges.dueNumber("0 is as it was", x.state(0, 0), 3.0);
        Edges.dueNumber("1 is as it was", x.state(0, 1), 2.0);
        Edges.due("k 30", x.set(0, 1, -1, 30), 1);
        Edges.dueNumber("-2^-30", x.state(0, 1), -0x1p-30);
        Edges.due("k 0", x.set(0, 0, Long.MIN_VALUE, 0), 1);
        Edges.dueNumber("-2^63", x.state(0, 0), -0x1p63);
        Edges.dueNumber("1 stays", x.state(0, 1), -0x1p-30);
        MotionStepper y = ended();
        Edges.due("set of an ended one", y.set(0, 0, 5, 0), STATE);
        Edges.dueNumber("it is as it was", y.state(0, 0), 1.0);
        Edges.due("no variable of an ended one", y.set(0, 1, 5, 0), NUMBER);
        Edges.due("an ended one, k 31", y.set(0, 0, 5, 31), NUMBER);
    }

    private static void method() {
        for (int n = 1; n <= 6; n++) {
            LawMaker law = new LawMaker(new MotionStepper(), n, 0);
            law.constant(1, 0);
            for (int i = 0; i < n; i++) {
                law.side(i, 0);
            }
            MotionStepper x = law.desk;
            law.run(0, 0);
            for (int m = 0; m < 6; m++) {
                Edges.due("method " + m, x.method(0, m), 1);
                Edges.due("it is " + m, x.count(0, 1), m);
            }
            Edges.due("LEAP of " + n, x.method(0, 6), n % 2 == 0 ? 1 : STATE);
            Edges.due("it is", x.count(0, 1), n % 2 == 0 ? 6 : 5);
            int[] wrong = {MIN, -1, 7, 8, MAX};
            for (int m : wrong) {
                Edges.due("method " + m, x.method(0, m), NUMBER);
            }
            for (int r : NO_RUNS) {
                Edges.due("method of run " + r, x.method(r, 0), NUMBER);
                Edges.due("LEAP of run " + r, x.method(r, 6), NUMBER);
            }
            Edges.due("it is as it was", x.count(0, 1), n % 2 == 0 ? 6 : 5);
        }
        Edges.due("an ended one has a method, too", ended().method(0, 5), 1);
    }

    private static void length() {
        MotionStepper x = Desks.decay();
        for (int r : NO_RUNS) {
            Edges.due("length of run " + r, x.length(r, 1, 0), NUMBER);
        }
        for (int k : NO_K) {
            Edges.due("length, k " + k, x.length(0, 1, k), NUMBER);
        }
        long[] wrong = {0, 1025, -1025, Long.MAX_VALUE, Long.MIN_VALUE};
        for (long n : wrong) {
            Edges.due("length " + n, x.length(0, n, 0), NUMBER);
        }
        Edges.due("0 / 2^30", x.length(0, 0, 30), NUMBER);
        Edges.due("1024 and 2^-30", x.length(0, (1L << 40) + 1, 30), NUMBER);
        Edges.due("-1024 and -2^-30", x.length(0, -(1L << 40) - 1, 30), NUMBER);
        Edges.dueNumber("it is as it was", x.clock(0, 1), 0.125);
        long[] taken = {1, -1, 1L << 40, -(1L << 40), (1L << 40) - 1};
        for (long n : taken) {
            Edges.due("length " + n + " / 2^30", x.length(0, n, 30), 1);
            Edges.dueNumber("it is " + n + " / 2^30", x.clock(0, 1), n * 0x1p-30);
            Edges.due("a step of it", x.step(0), 0);
            Edges.dueNumber("h", x.clock(0, 3), n * 0x1p-30);
        }
        Edges.due("1024", x.length(0, 1024, 0), 1);
        Edges.due("-1024", x.length(0, -1024, 0), 1);
        Edges.due("an ended one has a length, too", ended().length(0, 2, 0), 1);
    }

    private static void tolerance() {
        MotionStepper x = Desks.decay();
        for (int r : NO_RUNS) {
            Edges.due("tolerance of run " + r, x.tolerance(r, 1, 0, 0), NUMBER);
        }
        for (int k : NO_K) {
            Edges.due("tolerance, k " + k, x.tolerance(0, 1, 0, k), NUMBER);
        }
        long[] wrongFirst = {0, -1, Long.MIN_VALUE};
        for (long a : wrongFirst) {
            Edges.due("a of " + a, x.tolerance(0, a, 1, 0), NUMBER);
            Edges.due("a of " + a, x.tolerance(0, a, 1, 30), NUMBER);
        }
        long[] wrongSecond = {-1, Long.MIN_VALUE};
        for (long b : wrongSecond) {
            Edges.due("b of " + b, x.tolerance(0, 1, b, 0), NUMBER);
            Edges.due("b of " + b, x.tolerance(0, 1, b, 30), NUMBER);
        }
        // All these have changed nothing: 2^-20 and 0.0.
        x.method(0, 4);
        x.length(0, 1, 12);
        x.step(0);
        double e = Math.abs(Double.longBitsToDouble(x.stage(0, 5, 0)));
        Edges.dueNumber("they are as they were", x.clock(0, 2), e / 0x1p-20);
    }

    private static void tolerances() {
        dueTolerances(1, 0, 30);
        dueTolerances(1, 0, 0);
        dueTolerances(1, 1, 30);
        dueTolerances(5, 3, 2);
        dueTolerances(3, 5, 2);
        dueTolerances(Long.MAX_VALUE, Long.MAX_VALUE, 0);
        dueTolerances(Long.MAX_VALUE, Long.MAX_VALUE, 30);
        Edges.due("an ended one has tolerances, too", ended().tolerance(0, 2, 0, 0), 1);
    }

    /** The ERROR of a PAIR tells which they are. */
    private static void dueTolerances(long a, long b, int k) {
        MotionStepper x = Desks.decay();
        x.method(0, 4);
        x.length(0, 1, 12);
        Edges.due("tolerance " + a + ", " + b, x.tolerance(0, a, b, k), 1);
        Edges.due("step", x.step(0), 0);
        double e = Math.abs(Double.longBitsToDouble(x.stage(0, 5, 0)));
        Edges.dueTrue("it has an e", e != 0.0);
        double unit = Math.pow(2, k);
        Edges.dueNumber("ERROR", x.clock(0, 2), e / (a / unit + b / unit * 1.0));
    }

    private static void eventComes() {
        MotionStepper x = Desks.climb();
        x.run(0, 0, 0);
        Edges.due("the first one", x.event(0, 3, 1, 0, 0), 0);
        Edges.due("refused", x.event(0, 3, 2, 0, 0), NUMBER);
        Edges.due("a refused one has no number", x.event(0, 3, 1, 0, 0), 1);
        Edges.due("the first one of another run", x.event(1, 3, 1, 0, 0), 0);
        x.step(0);
        Edges.due("the third one, behind a step", x.event(0, 3, -1, 0, 0), 2);
        Edges.due("fired", x.count(0, 7), 2);
        x.length(0, -1, 0);
        x.step(0);
        Edges.due("from 0 to below: none", x.count(0, 7), 2);
        x.length(0, 3, 0);
        x.step(0);
        Edges.due("the rise, for both", x.count(0, 7), 4);
        x.length(0, -3, 0);
        x.step(0);
        Edges.due("the fall, for the third one", x.count(0, 7), 5);
        Edges.due("its number", x.fired(0, 4, 0), 2);
    }

    private static void event() {
        MotionStepper x = Desks.climb();
        for (int r : NO_RUNS) {
            Edges.due("event of run " + r, x.event(r, 0, 0, 0, 0), NUMBER);
        }
        int[] nodes = {MIN, -1, 4, 47, 48, MAX};
        for (int q : nodes) {
            Edges.due("event of node " + q, x.event(0, q, 0, 0, 0), NUMBER);
        }
        int[] directions = {MIN, -2, 2, MAX};
        for (int direction : directions) {
            Edges.due("direction " + direction, x.event(0, 0, direction, 0, 0), NUMBER);
        }
        int[] actions = {MIN, -1, 4, MAX};
        for (int action : actions) {
            Edges.due("action " + action, x.event(0, 0, 0, action, 0), NUMBER);
        }
        Edges.due("events", x.count(0, 6), 0);
        int[] any = {MIN, MAX, -1, 6};
        for (int j = 0; j < 4; j++) {
            Edges.due("event " + j, x.event(0, 3, j == 0 ? -1 : j - 1 > 1 ? 1 : j - 1, j, any[j]), j);
            Edges.due("events", x.count(0, 6), j + 1);
        }
        Edges.due("event 4", x.event(0, 0, 0, 0, 0), FULL);
        Edges.due("event 4 of no node", x.event(0, 4, 0, 0, 0), NUMBER);
        Edges.due("event 4 of direction 2", x.event(0, 0, 2, 0, 0), NUMBER);
        Edges.due("event 4 of action 4", x.event(0, 0, 0, 4, 0), NUMBER);
        Edges.due("events", x.count(0, 6), 4);
        x.run(0, 0, 0);
        Edges.due("another run has room", x.event(1, 3, 0, 0, 0), 0);
        x.constant(0, 1, 0);
        Edges.due("a node that came behind the run", x.event(1, 4, 0, 0, 0), 1);
        Edges.due("an ended one has events, too", ended().event(0, 0, 0, 0, 0), 1);
    }

    private static void state() {
        MotionStepper x = Desks.swing(0);
        for (int r : NO_RUNS) {
            Edges.due("state of run " + r, x.state(r, 0), NONE);
        }
        int[] variables = {MIN, -1, 2, 5, 6, MAX};
        for (int i : variables) {
            Edges.due("state " + i, x.state(0, i), NONE);
        }
        Edges.dueNumber("state 0", x.state(0, 0), 3.0);
        Edges.dueNumber("state 1", x.state(0, 1), 2.0);
        Edges.dueNumber("state of an ended one", ended().state(0, 0), 1.0);
    }

    private static void errorOfLatest() {
        MotionStepper x = Desks.decay();
        Edges.dueNumber("none yet", x.clock(0, 2), 0.0);
        x.method(0, 4);
        Edges.dueNumber("none yet, a PAIR to come", x.clock(0, 2), 0.0);
        x.tolerance(0, 1, 0, 10);
        x.step(0);
        long error = x.clock(0, 2);
        Edges.dueTrue("a PAIR's", error != 0);
        for (int m = 0; m < 6; m++) {
            x.method(0, m);
            Edges.due("the latest one is a PAIR yet", x.clock(0, 2), error);
        }
        for (int m = 0; m < 6; m++) {
            if (m != 4) {
                x.method(0, 4);
                x.length(0, 1, 3);
                x.step(0);
                Edges.dueTrue("a PAIR's", x.clock(0, 2) != 0);
                x.method(0, m);
                x.step(0);
                Edges.dueNumber("that of METHOD " + m, x.clock(0, 2), 0.0);
            }
        }
        // A refused one is not the latest one TAKEN.
        MotionStepper y = wildAtOne(4);
        y.tolerance(0, 1, 0, 0);
        y.step(0);
        long before = y.clock(0, 2);
        y.length(0, 7, 3);
        Edges.due("wild", y.step(0), WILD);
        Edges.due("as ahead of it", y.clock(0, 2), before);
    }

    private static void lengthOfLatest() {
        MotionStepper x = Desks.decay();
        Edges.dueNumber("without one", x.clock(0, 3), 0.0);
        x.length(0, 1, 1);
        Edges.dueNumber("without one", x.clock(0, 3), 0.0);
        x.step(0);
        x.length(0, -1, 2);
        Edges.dueNumber("the latest one's", x.clock(0, 3), 0.5);
        Edges.dueNumber("the next one's", x.clock(0, 1), -0.25);
        x.step(0);
        Edges.dueNumber("the latest one's", x.clock(0, 3), -0.25);
        x.length(0, 1, 0);
        x.to(0, 5, 3, 1);
        Edges.dueNumber("that of a CUT one", x.clock(0, 3), 0.375);
        MotionStepper y = ended();
        y.length(0, 7, 0);
        Edges.dueNumber("that of an ended one", y.clock(0, 3), 1.0);
    }

    private static void timeAndLength() {
        MotionStepper x = Desks.decay();
        x.run(0, 7, 1);
        Edges.dueNumber("time of 0", x.clock(0, 0), 0.0);
        Edges.dueNumber("time of 1", x.clock(1, 0), 3.5);
        x.length(1, -3, 4);
        Edges.dueNumber("LENGTH of 0", x.clock(0, 1), 0.125);
        Edges.dueNumber("LENGTH of 1", x.clock(1, 1), -0.1875);
        x.step(0);
        x.step(1);
        x.step(1);
        Edges.dueNumber("time of 0", x.clock(0, 0), 0.125);
        Edges.dueNumber("time of 1", x.clock(1, 0), 3.125);
        // The LENGTH that a PAIR has come to.
        x.method(0, 4);
        x.tolerance(0, 1, 0, 0);
        x.step(0);
        Edges.dueNumber("time of 0", x.clock(0, 0), 0.25);
        Edges.dueNumber("LENGTH of 0", x.clock(0, 1), 0.5);
        Edges.dueNumber("LENGTH of 1", x.clock(1, 1), -0.1875);
    }

    private static void clock() {
        MotionStepper x = Desks.climb();
        x.step(0);
        for (int r : NO_RUNS) {
            Edges.due("clock of run " + r, x.clock(r, 0), NONE);
        }
        int[] wrong = {MIN, -1, 4, 5, MAX};
        for (int what : wrong) {
            Edges.due("clock " + what, x.clock(0, what), NONE);
        }
        Edges.dueNumber("time", x.clock(0, 0), 1.0);
        Edges.dueNumber("length", x.clock(0, 1), 1.0);
        Edges.dueNumber("error", x.clock(0, 2), 0.0);
        Edges.dueNumber("h", x.clock(0, 3), 1.0);
    }

    private static void gapOfLatest() {
        MotionStepper x = Desks.swing(0);
        Edges.due("without a step", x.count(0, 4), 0);
        for (int m = 0; m <= 6; m++) {
            if (m != 5) {
                x.method(0, 5);
                x.step(0);
                Edges.due("BACKWARD", x.count(0, 4), 2);
                x.method(0, m);
                x.tolerance(0, 1, 0, 0);
                Edges.due("the latest one is BACKWARD yet", x.count(0, 4), 2);
                Edges.due("step", x.step(0), 0);
                Edges.due("METHOD " + m, x.count(0, 4), 0);
            }
        }
    }

    private static void firstCounts() {
        MotionStepper x = Desks.decay();
        LawMaker law = new LawMaker(x, 1, 0);
        law.side(0, law.table(law.time(), new double[] {1.0}, new double[] {0, 72}));
        law.run(0, 0);
        Edges.due("LAW of 0", x.count(0, 0), 0);
        Edges.due("LAW of 1", x.count(1, 0), 1);
        for (int m = 0; m < 6; m++) {
            x.method(1, m);
            Edges.due("METHOD", x.count(1, 1), m);
            Edges.due("METHOD of the other one", x.count(0, 1), 0);
        }
        // RUN 1: a PAIR of 1 has an e of -9, and one of a half none.
        x.method(1, 4);
        x.length(1, 1, 0);
        x.tolerance(1, 8, 0, 0);
        Edges.due("a step with a REJECTED one", x.step(1), 1);
        Edges.due("TAKEN", x.count(1, 2), 1);
        Edges.due("REJECTED", x.count(1, 3), 1);
        // From 1/2 by 4, 1 and 1/2, whose ERRORS are 20, 5 and 4.5, then by 1/4.
        x.length(1, 4, 0);
        x.tolerance(1, 1, 0, 0);
        Edges.due("a step with three REJECTED ones", x.step(1), 3);
        Edges.dueNumber("h", x.clock(1, 3), 0.25);
        Edges.due("TAKEN", x.count(1, 2), 2);
        Edges.due("all REJECTED ones", x.count(1, 3), 4);
        Edges.due("TAKEN by 0", x.count(0, 2), 0);
        Edges.due("steps of 0", x.to(0, 1, 0, 99), 8);
        Edges.due("TAKEN by 0", x.count(0, 2), 8);
        Edges.due("REJECTED by 0", x.count(0, 3), 0);
        Edges.due("TAKEN by 1", x.count(1, 2), 2);
    }

    private static void countsOfEvents() {
        MotionStepper x = Desks.climb();
        x.run(0, 0, 0);
        for (int j = 0; j < 4; j++) {
            Edges.due("EVENTS", x.count(0, 6), j);
            Edges.due("EVENTS of the other one", x.count(1, 6), 0);
            x.event(0, j < 3 ? 3 : 2, 1, 0, 0);
        }
        Edges.due("EVENTS", x.count(0, 6), 4);
        Edges.due("none FIRED", x.count(0, 7), 0);
        x.step(0);
        Edges.due("three of four", x.count(0, 7), 3);
        x.length(0, -1, 0);
        x.step(0);
        x.length(0, -1, 0);
        x.step(0);
        x.length(0, 2, 0);
        x.step(0);
        Edges.due("three more", x.count(0, 7), 6);
        Edges.due("none of the other one", x.count(1, 7), 0);
        Edges.due("EVENTS", x.count(0, 6), 4);
    }

    private static void endedOrNot() {
        MotionStepper x = Desks.climb();
        Edges.due("a new one", x.count(0, 5), 0);
        x.event(0, 3, 1, 1, 0);
        Edges.due("with an event to come", x.count(0, 5), 0);
        x.keep(0, 0);
        x.step(0);
        Edges.due("behind it", x.count(0, 5), 1);
        x.back(0, 0);
        Edges.due("brought back", x.count(0, 5), 0);
    }

    private static void refusedCounts() {
        // Two steps of to() are TAKEN, with an EVENT and REJECTED ones, ahead of a WILD one.
        MotionStepper x = wildAtOne(4);
        x.method(0, 3);
        x.length(0, 1, 2);
        x.event(0, 5, 1, 0, 0);
        Edges.due("wild", x.to(0, 2, 0, 9), WILD);
        for (int what = 2; what <= 4; what++) {
            Edges.due("count " + what, x.count(0, what), 0);
        }
        Edges.due("fired", x.count(0, 7), 0);
        Edges.due("none fired", x.fired(0, 0, 0), NONE);
        Edges.due("one ahead of it", x.to(0, 2, 0, 3), 3);
        Edges.due("taken", x.count(0, 2), 3);
        Edges.due("fired", x.count(0, 7), 1);
        // A REFUSED one has REJECTED ones ahead of it.
        MotionStepper y = Desks.jump();
        y.length(0, 1, 25);
        Edges.due("refused", y.step(0), SMALL);
        Edges.due("rejected", y.count(0, 3), 0);
        Edges.due("taken", y.count(0, 2), 0);
        Edges.due("refused", y.to(0, 1, 0, 9), SMALL);
        Edges.due("rejected", y.count(0, 3), 0);
    }

    /** x' = 1 / (1 - t), NODE 5 t - 0.5; RUN 0 at time 0. */
    private static MotionStepper wildAtOne(int method) {
        MotionStepper x = new MotionStepper();
        LawMaker law = new LawMaker(x, 1, 0);
        int one = law.constant(1, 0);
        int time = law.time();
        int pole = law.node(5, one, law.node(3, one, time, 0), 0);
        law.below(time, 0.5, one, one);
        law.side(0, pole);
        law.run(0, 0);
        x.method(0, method);
        return x;
    }

    private static void count() {
        MotionStepper x = Desks.climb();
        for (int r : NO_RUNS) {
            Edges.due("count of run " + r, x.count(r, 0), NUMBER);
        }
        int[] wrong = {MIN, -1, 8, 9, MAX};
        for (int what : wrong) {
            Edges.due("count " + what, x.count(0, what), NUMBER);
        }
        for (int what = 0; what < 8; what++) {
            Edges.due("count " + what, x.count(0, what), 0);
        }
    }

    private static void stagesOfLatest() {
        // x0' = t, x1' = x0: all k of a PAIR from time 1 by 1/2, in numbers that do not round.
        LawMaker law = new LawMaker(new MotionStepper(), 2, 0);
        law.side(0, law.time()).side(1, law.state(0));
        MotionStepper x = law.desk;
        law.run(1, 0);
        x.set(0, 0, 4, 0);
        x.length(0, 1, 1);
        x.method(0, 4);
        x.tolerance(0, 1, 0, 0);
        x.step(0);
        double[] times = {1, 1.25, 1.375, 1.5};
        double[] states = {4, 4.25, 4 + 0.375 * 1.25, Double.longBitsToDouble(x.state(0, 0))};
        for (int j = 1; j <= 4; j++) {
            Edges.dueNumber("k" + j + " of 0", x.stage(0, j, 0), times[j - 1]);
            Edges.dueNumber("k" + j + " of 1", x.stage(0, j, 1), states[j - 1]);
        }
        Edges.dueNumber("e of 0", x.stage(0, 5, 0), 0.0);
        double e = (0.5 / 72) * (((6 * states[1] + 8 * states[2]) - 5 * states[0]) - 9 * states[3]);
        Edges.dueNumber("e of 1", x.stage(0, 5, 1), e);
        // The latest one alone, and of this RUN alone.
        law.run(5, 0);
        Edges.due("none of another RUN", x.stage(1, 1, 0), NONE);
        x.method(0, 0);
        x.set(0, 0, 7, 0);
        Edges.dueNumber("no step since", x.stage(0, 1, 1), 4.0);
        x.step(0);
        Edges.dueNumber("the latest one's k1", x.stage(0, 1, 1), 7.0);
        Edges.due("no k2 any more", x.stage(0, 2, 1), NONE);
        Edges.due("no e any more", x.stage(0, 5, 1), NONE);
    }

    private static void stage() {
        int[] stages = {1, 2, 3, 4, 4, 2, 3};
        int[] wrong = {MIN, -1, 0, 6, 7, MAX};
        for (int m = 0; m <= 6; m++) {
            MotionStepper x = Desks.swing(0);
            x.method(0, m);
            x.tolerance(0, 1, 0, 0);
            for (int j = 0; j <= 6; j++) {
                Edges.due("no step yet", x.stage(0, j, 0), NONE);
            }
            x.step(0);
            for (int other = 0; other <= 6; other++) {
                x.method(0, other);
                for (int j = 1; j <= 5; j++) {
                    boolean there = j <= stages[m] || m == 4 && j == 5;
                    Edges.due("METHOD " + m + ", j " + j, x.stage(0, j, 1) != NONE ? 1 : 0, there ? 1 : 0);
                }
            }
            for (int j : wrong) {
                Edges.due("j " + j, x.stage(0, j, 0), NONE);
            }
            for (int r : NO_RUNS) {
                Edges.due("stage of run " + r, x.stage(r, 1, 0), NONE);
            }
            int[] variables = {MIN, -1, 2, 5, MAX};
            for (int i : variables) {
                Edges.due("stage of variable " + i, x.stage(0, 1, i), NONE);
            }
        }
        // BACKWARD: x' = x + 1 from 0 by 1 puts 1, then 2 to 7; the sixth k2 is f of 6.
        LawMaker law = new LawMaker(new MotionStepper(), 1, 0);
        law.side(0, law.node(2, law.state(0), law.constant(1, 0), 0));
        int r = law.run(0, 0);
        law.desk.length(r, 1, 0);
        law.desk.method(r, 5);
        law.desk.step(r);
        Edges.dueNumber("k1", law.desk.stage(r, 1, 0), 1.0);
        Edges.dueNumber("k2 of the sixth time", law.desk.stage(r, 2, 0), 7.0);
    }

    private static void value() {
        MotionStepper x = Desks.climb();
        for (int r : NO_RUNS) {
            Edges.due("value of run " + r, x.value(r, 0), NONE);
        }
        int[] nodes = {MIN, -1, 4, 47, 48, MAX};
        for (int q : nodes) {
            Edges.due("value of node " + q, x.value(0, q), NONE);
        }
        Edges.dueNumber("ahead of a step", x.value(0, 0), 0.0);
        x.step(0);
        Edges.dueNumber("at its time", x.value(0, 0), 1.0);
        Edges.dueNumber("at its state", x.value(0, 1), 1.0);
        x.set(0, 0, 5, 0);
        Edges.dueNumber("at its state as set", x.value(0, 3), 4.0);
        x.node(0, 3, 1, 1, 0);
        x.node(0, 5, 4, 4, 0);
        Edges.dueNumber("the last node but one", x.value(0, 4), 0.0);
        Edges.due("not a number", x.value(0, 5), NONE);
        Edges.dueNumber("that of an ended one", ended().value(0, 3), 0.0);
    }
}
