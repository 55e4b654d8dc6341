/** Promises 25 to 27, and an object's 512 calls. */
public final class EdgesOfKeptTest {
    private static final int NUMBER = MotionStepper.NUMBER;
    private static final int STATE = MotionStepper.STATE;
    private static final long NONE = MotionStepper.NONE;
    private static final int MIN = Integer.MIN_VALUE;
    private static final int MAX = Integer.MAX_VALUE;
    private static final int[] NO_RUNS = {MIN, -1, 1, 3, 4, MAX};
    private static final int[] NO_PLACES = {MIN, -1, 4, 5, MAX};

    public static void main(String[] args) {
        Edges.sentence("All that a RUN is (its LAW, EVENTS and counts, too) is kept in place p: 1.",
            EdgesOfKeptTest::all);
        Edges.sentence("NUMBER: there is no such RUN, p isn't 0 to 3.", EdgesOfKeptTest::keep);
        Edges.sentence("A RUN becomes what is kept in place p (it stays kept): 1.",
            EdgesOfKeptTest::staysKept);
        Edges.sentence("(it stays kept): 1. NUMBER: there is no such RUN, p isn't 0 to 3; STATE: nothing is "
            + "kept there.", EdgesOfKeptTest::back);
        Edges.sentence("In how many of time, LENGTH and states a RUN and what is kept in place p have "
            + "unlike bits", EdgesOfKeptTest::unlikeBits);
        Edges.sentence("LAWS of other numbers of VARIABLES: those that only one has are unlike.",
            EdgesOfKeptTest::otherNumbers);
        Edges.sentence("those that only one has are unlike. NUMBER: there is no such RUN, p isn't 0 to 3; "
            + "STATE: nothing is kept there.", EdgesOfKeptTest::unlike);
        Edges.sentence("An object is used for at most 512 calls after it has been made; what later calls "
            + "answer is free.", EdgesOfKeptTest::calls);
        Edges.end();
    }

    /** swing() by PAIR, with three EVENTS, behind steps with REJECTED ones; RUN 1 is a new one. */
    private static MotionStepper busy() {
        MotionStepper x = Desks.swing(0);
        x.constant(0, 4, 0);
        x.node(0, 3, 0, 4, 0);
        x.run(0, 0, 0);
        x.method(0, 4);
        x.length(0, 8, 0);
        x.tolerance(0, 3, 1, 7);
        x.event(0, 1, 0, 2, 1);
        x.event(0, 5, -1, 0, 0);
        x.event(0, 5, 1, 3, 1);
        x.to(0, 9, 0, 30);
        return x;
    }

    private static void all() {
        MotionStepper x = busy();
        Edges.dueTrue("steps", x.count(0, 2) > 3);
        Edges.dueTrue("REJECTED ones", x.count(0, 3) > 0);
        Edges.dueTrue("FIRED ones", x.count(0, 7) > 1);
        Edges.due("keep", x.keep(0, 2), 1);
        Edges.due("back", x.back(1, 2), 1);
        dueAlike("at once", x);
        // TOLERANCES and EVENTS show in the steps that follow.
        Edges.due("steps", x.to(1, 30, 0, 40), x.to(0, 30, 0, 40));
        dueAlike("behind steps", x);
        Edges.dueTrue("more FIRED", x.count(1, 7) > 4);
        eventsAreKept();
        // A RUN that is ENDED; and one of another LAW.
        MotionStepper y = Desks.climb();
        y.law(2, 0);
        y.constant(1, 1, 0);
        y.side(1, 0, 0);
        y.side(1, 1, 0);
        y.run(1, 7, 0);
        y.event(0, 3, 1, 1, 0);
        y.step(0);
        y.keep(0, 0);
        y.keep(1, 3);
        Edges.due("an ended one", y.back(1, 0), 1);
        Edges.due("its LAW", y.count(1, 0), 0);
        Edges.due("it is ENDED", y.count(1, 5), 1);
        Edges.due("its VARIABLES", y.state(1, 1), NONE);
        Edges.due("no step", y.step(1), STATE);
        Edges.due("one of another LAW", y.back(0, 3), 1);
        Edges.due("its LAW", y.count(0, 0), 1);
        Edges.due("its VARIABLES", y.set(0, 1, 5, 0), 1);
        Edges.due("it is not ENDED", y.count(0, 5), 0);
        Edges.due("no EVENTS", y.count(0, 6), 0);
        Edges.due("no step yet", y.stage(0, 1, 0), NONE);
        Edges.dueNumber("time", y.clock(0, 0), 7.0);
    }

    /** x0' = x1, x1' = -x0, where x1 is negated at each rise of x0 to 0.5; all four EVENTS FIRE. */
    private static void eventsAreKept() {
        LawMaker law = new LawMaker(new MotionStepper(), 2, 0);
        int place = law.state(0);
        int speed = law.state(1);
        int above = law.node(3, place, law.constant(1, 1), 0);
        law.side(0, speed).side(1, law.node(6, place, 0, 0));
        law.run(0, 0);
        law.run(0, 0);
        MotionStepper x = law.desk;
        x.set(0, 0, -1, 0);
        x.method(0, 6);
        x.event(0, place, 1, 0, 0);
        x.event(0, place, -1, 0, 0);
        x.event(0, speed, 0, 0, 0);
        x.event(0, above, 1, 2, 1);
        Edges.due("steps", x.to(0, 8, 0, 100) > 9 ? 1 : 0, 1);
        x.keep(0, 0);
        x.back(1, 0);
        int before = x.count(1, 7);
        Edges.due("steps", x.to(1, 20, 0, 150), x.to(0, 20, 0, 150));
        Edges.due("FIRED", x.count(1, 7), x.count(0, 7));
        int[] first = new int[4];
        int[] second = new int[4];
        for (int j = 0; j < x.count(0, 7); j++) {
            Edges.due("number of " + j, x.fired(1, j, 0), x.fired(0, j, 0));
            Edges.due("time of " + j, x.fired(1, j, 1), x.fired(0, j, 1));
            (j < before ? first : second)[(int) x.fired(0, j, 0)]++;
        }
        for (int j = 0; j < 4; j++) {
            Edges.dueTrue("EVENT " + j + " ahead and behind", first[j] > 0 && second[j] > 0);
        }
        Edges.due("state", x.state(1, 1), x.state(0, 1));
    }

    private static void dueAlike(String when, MotionStepper x) {
        for (int what = 0; what < 8; what++) {
            Edges.due("count " + what + " " + when, x.count(1, what), x.count(0, what));
        }
        for (int what = 0; what < 4; what++) {
            Edges.due("clock " + what + " " + when, x.clock(1, what), x.clock(0, what));
        }
        for (int i = 0; i < 2; i++) {
            Edges.due("state " + i + " " + when, x.state(1, i), x.state(0, i));
            Edges.due("between " + i + " " + when, x.between(1, i, 1, 2), x.between(0, i, 1, 2));
            for (int j = 1; j <= 5; j++) {
                Edges.due("stage " + j + " " + when, x.stage(1, j, i), x.stage(0, j, i));
            }
        }
        for (int j = 0; j < 6; j++) {
            Edges.due("fired " + j + " " + when, x.fired(1, j, 0), x.fired(0, j, 0));
            Edges.due("fired at " + j + " " + when, x.fired(1, j, 1), x.fired(0, j, 1));
        }
    }

    private static void keep() {
        MotionStepper x = Desks.climb();
        for (int r : NO_RUNS) {
            Edges.due("keep of run " + r, x.keep(r, 0), NUMBER);
        }
        for (int p : NO_PLACES) {
            Edges.due("keep in " + p, x.keep(0, p), NUMBER);
        }
        for (int p = 0; p < 4; p++) {
            Edges.due("nothing in " + p, x.unlike(0, p), STATE);
        }
        for (int p = 0; p < 4; p++) {
            Edges.due("keep in " + p, x.keep(0, p), 1);
            x.step(0);
        }
        for (int p = 0; p < 4; p++) {
            Edges.due("each place has its own", x.back(0, p), 1);
            Edges.dueNumber("time of " + p, x.clock(0, 0), p);
        }
        // One that comes later is kept in place of the one that is there.
        x.set(0, 0, 77, 0);
        x.keep(0, 1);
        x.back(0, 0);
        x.back(0, 1);
        Edges.dueNumber("the later one", x.state(0, 0), 77.0);
        x.back(0, 2);
        Edges.dueNumber("the others stay", x.state(0, 0), 2.0);
        MotionStepper y = Desks.climb();
        y.event(0, 3, 1, 1, 0);
        y.step(0);
        Edges.due("an ended one is kept, too", y.keep(0, 0), 1);
    }

    private static void staysKept() {
        MotionStepper x = Desks.climb();
        x.run(0, 5, 0);
        x.keep(0, 3);
        for (int times = 0; times < 3; times++) {
            Edges.due("back", x.back(0, 3), 1);
            Edges.due("alike", x.unlike(0, 3), 0);
            x.step(0);
            x.method(0, times);
            x.length(0, 3, 0);
            x.event(0, 3, 0, 1, 0);
            x.tolerance(0, 1, 1, 0);
            Edges.due("not what goes on", x.unlike(0, 3), 3);
        }
        Edges.due("in another RUN", x.back(1, 3), 1);
        Edges.due("alike", x.unlike(1, 3), 0);
        Edges.due("no EVENTS", x.count(1, 6), 0);
        Edges.due("two RUNS are two", x.set(1, 0, 9, 0), 1);
        Edges.dueTrue("two RUNS are two", x.state(0, 0) != x.state(1, 0));
        x.back(0, 3);
        Edges.dueNumber("what is kept is a third", x.state(0, 0), 0.0);
    }

    private static void back() {
        MotionStepper x = Desks.climb();
        for (int p = 0; p < 4; p++) {
            Edges.due("nothing in " + p, x.back(0, p), STATE);
        }
        for (int r : NO_RUNS) {
            Edges.due("back of run " + r + ", nothing kept", x.back(r, 0), NUMBER);
        }
        for (int p : NO_PLACES) {
            Edges.due("back from " + p, x.back(0, p), NUMBER);
        }
        // to() may not leave anything in a place.
        x.to(0, 3, 0, 9);
        for (int p = 0; p < 4; p++) {
            Edges.due("nothing in " + p, x.back(0, p), STATE);
        }
        Edges.due("back from 4", x.back(0, 4), NUMBER);
        x.keep(0, 2);
        int[] answers = {STATE, STATE, 1, STATE};
        for (int p = 0; p < 4; p++) {
            Edges.due("back from " + p, x.back(0, p), answers[p]);
        }
        for (int r : NO_RUNS) {
            Edges.due("back of run " + r, x.back(r, 2), NUMBER);
        }
    }

    private static void unlikeBits() {
        MotionStepper x = Desks.swing(0);
        x.keep(0, 0);
        Edges.due("alike", x.unlike(0, 0), 0);
        x.method(0, 5);
        x.tolerance(0, 1, 1, 0);
        x.event(0, 0, 0, 0, 0);
        Edges.due("METHOD, TOLERANCES and EVENTS are none of these", x.unlike(0, 0), 0);
        x.length(0, 4, 3);
        Edges.due("LENGTH", x.unlike(0, 0), 1);
        x.length(0, 3, 3);
        Edges.due("LENGTH again", x.unlike(0, 0), 0);
        x.set(0, 1, 7, 0);
        Edges.due("state 1", x.unlike(0, 0), 1);
        x.set(0, 0, 7, 0);
        Edges.due("both states", x.unlike(0, 0), 2);
        x.step(0);
        Edges.due("time and states", x.unlike(0, 0), 3);
        x.length(0, 4, 3);
        Edges.due("all", x.unlike(0, 0), 4);
        // A last bit is enough.
        x.keep(0, 1);
        x.set(0, 0, (1L << 53) - 1, 30);
        x.keep(0, 1);
        x.set(0, 0, (1L << 53) - 2, 30);
        Edges.due("the last bit", x.unlike(0, 1), 1);
        // 0.0 and -0.0 have unlike bits.
        MotionStepper y = Desks.climb();
        y.node(0, 3, 0, 2, 0);
        y.set(0, 0, -1, 0);
        y.event(0, 4, 1, 2, 0);
        y.step(0);
        Edges.dueNumber("-0.0", y.state(0, 0), -0.0);
        y.keep(0, 0);
        y.set(0, 0, 0, 0);
        Edges.due("0.0 and -0.0", y.unlike(0, 0), 1);
        none();
        // The time alone: x' = 0.
        LawMaker law = new LawMaker(new MotionStepper(), 1, 0);
        law.side(0, law.constant(0, 0));
        law.run(0, 0);
        law.desk.keep(0, 0);
        law.desk.step(0);
        Edges.due("time", law.desk.unlike(0, 0), 1);
        Edges.due("counts are none of these", law.desk.count(0, 2), 1);
    }

    /** A state that is none: an EVENT at 0.5 in a step to time 1, where x0' is none. */
    private static void none() {
        LawMaker law = new LawMaker(new MotionStepper(), 2, 0);
        int time = law.time();
        law.side(0, law.table(time, new double[] {1}, new double[] {2, Double.NaN}));
        law.side(1, law.constant(2, 0));
        int q = law.node(3, time, law.number(0.5), 0);
        law.run(0, 0);
        law.run(0, 0);
        MotionStepper x = law.desk;
        x.length(0, 1, 0);
        x.event(0, q, 1, 3, 0);
        x.step(0);
        Edges.due("state 0 is none", x.state(0, 0), NONE);
        Edges.dueNumber("state 1 is a NUMBER", x.state(0, 1), 1.0);
        Edges.due("0 between is none", x.between(0, 0, 1, 2), NONE);
        Edges.dueNumber("1 between isn't", x.between(0, 1, 1, 2), 0.5);
        x.keep(0, 0);
        Edges.due("none is like none", x.unlike(0, 0), 0);
        x.set(0, 0, 0, 0);
        Edges.due("none is unlike 0.0", x.unlike(0, 0), 1);
        x.back(0, 0);
        Edges.due("none comes back", x.state(0, 0), NONE);
        x.back(1, 0);
        Edges.due("none comes back in another RUN", x.state(1, 0), NONE);
        Edges.dueNumber("what isn't, too", x.state(1, 1), 1.0);
        Edges.due("0 between is none there, too", x.between(1, 0, 1, 2), NONE);
        Edges.due("it is WILD from there", x.step(1), MotionStepper.WILD);
        Edges.due("no halves", x.halves(1, 1), NONE);
    }

    private static void otherNumbers() {
        MotionStepper x = new MotionStepper();
        int[] numbers = {1, 2, 4, 6};
        for (int l = 0; l < 4; l++) {
            LawMaker law = new LawMaker(x, numbers[l], 0);
            law.constant(1, 0);
            for (int i = 0; i < numbers[l]; i++) {
                law.side(i, 0);
            }
            law.run(0, 0);
            x.keep(l, l);
        }
        for (int r = 0; r < 4; r++) {
            for (int p = 0; p < 4; p++) {
                int want = Math.abs(numbers[r] - numbers[p]);
                Edges.due(numbers[r] + " and " + numbers[p], x.unlike(r, p), want);
            }
        }
        // Those that both have are looked at, too; all of six, with time and LENGTH.
        for (int i = 0; i < 6; i++) {
            x.set(3, i, 5, 0);
            Edges.due("six and six", x.unlike(3, 3), i + 1);
            Edges.due("six and two", x.unlike(3, 1), 4 + Math.min(i + 1, 2));
            Edges.due("six and one", x.unlike(3, 0), 6);
        }
        x.length(3, 1, 0);
        x.step(3);
        Edges.due("all eight", x.unlike(3, 3), 8);
        Edges.due("all eight, of two", x.unlike(3, 1), 8);
        // LAWS that are two, of the same number.
        MotionStepper y = Desks.climb();
        LawMaker law = new LawMaker(y, 1, 1);
        law.side(0, law.constant(3, 0));
        int r = law.run(0, 0);
        y.length(r, 1, 0);
        y.keep(0, 0);
        Edges.due("the LAW is none of these", y.unlike(r, 0), 0);
    }

    private static void unlike() {
        MotionStepper x = Desks.climb();
        for (int p = 0; p < 4; p++) {
            Edges.due("nothing in " + p, x.unlike(0, p), STATE);
        }
        for (int r : NO_RUNS) {
            Edges.due("unlike of run " + r + ", nothing kept", x.unlike(r, 0), NUMBER);
        }
        for (int p : NO_PLACES) {
            Edges.due("unlike in " + p, x.unlike(0, p), NUMBER);
        }
        x.keep(0, 3);
        for (int r : NO_RUNS) {
            Edges.due("unlike of run " + r, x.unlike(r, 3), NUMBER);
        }
        int[] answers = {STATE, STATE, STATE, 0};
        for (int p = 0; p < 4; p++) {
            Edges.due("unlike in " + p, x.unlike(0, p), answers[p]);
        }
    }

    private static void calls() {
        // 8 calls make it, 503 steps follow; the 512th call tells where it is.
        MotionStepper x = Desks.climb();
        for (int call = 9; call <= 511; call++) {
            Edges.due("call " + call, x.step(0), 0);
        }
        Edges.dueNumber("the 512th call", x.state(0, 0), 503.0);
        // 12 calls make it, 498 go to and fro in 128 steps each, with four EVENTS that come.
        MotionStepper y = Desks.climb();
        for (int j = 0; j < 4; j++) {
            y.event(0, 3, 0, 0, 0);
        }
        for (int round = 0; round < 249; round++) {
            boolean forth = round % 2 == 0;
            Edges.due("length", y.length(0, forth ? 1 : -1, 5), 1);
            Edges.due("round " + round, y.to(0, forth ? 4 : 0, 0, 200), 128);
        }
        Edges.due("the 511th call", y.count(0, 7), 4 * 249);
        Edges.dueNumber("the 512th call", y.clock(0, 0), 4.0);
    }
}
