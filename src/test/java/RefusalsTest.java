/** Every refusal of every call: it changes nothing, and of several the first one named is answered. */
public final class RefusalsTest {
    private static final int NUMBER = MotionStepper.NUMBER;
    private static final int STATE = MotionStepper.STATE;
    private static final int FULL = MotionStepper.FULL;
    private static final int WILD = MotionStepper.WILD;
    private static final int SMALL = MotionStepper.SMALL;
    private static final int[] NO_K = {-1, 31};

    public static void main(String[] args) {
        Edges.sentence("The constants: `NUMBER = -1`: A number is none, or none that may be.",
            () -> Edges.due("NUMBER", NUMBER, -1));
        Edges.sentence("`STATE = -2`: Something isn't as it must be for that.",
            () -> Edges.due("STATE", STATE, -2));
        Edges.sentence("`FULL = -3`: There are as many as may be.", () -> Edges.due("FULL", FULL, -3));
        Edges.sentence("`WILD = -4`: A step is WILD.", () -> Edges.due("WILD", WILD, -4));
        Edges.sentence("`SMALL = -5`: A step is REFUSED by its control.",
            () -> Edges.due("SMALL", SMALL, -5));
        Edges.sentence("A call that is refused (answers below 0) changes nothing.", () -> {
            numbersOfLaws();
            numbersOfRuns();
            numbersOfKept();
            states();
            fulls();
            wildAndSmall();
        });
        Edges.sentence("NONE = 0x7FF8000000000000L`: What is told for a NUMBER that there is none of.", () -> {
            whatTells();
            none();
        });
        Edges.sentence("Of several refusals that a call names the first one named is answered.", () -> {
            numberAheadOfFull();
            numberAheadOfState();
            stateAheadOfFull();
            stateAheadOfWildAndSmall();
        });
        Edges.end();
    }

    // ---- desks

    /**
     * Nothing is FULL. RUN 0: swing() by PAIR, with EVENTS, behind steps; RUN 1: climb(), ENDED;
     * RUN 0 is kept in place 1. LAW 2 has a NODE and no SIDE; SIGNAL 0 has two POINTS, to time 4.
     */
    private static MotionStepper half() {
        MotionStepper x = Desks.swing(0);
        x.signal(1);
        x.signal(0);
        x.point(0, 0, 3, 0);
        x.point(0, 4, 9, 0);
        x.node(0, 12, 2, 0, 0);
        x.method(0, 4);
        x.tolerance(0, 3, 1, 7);
        x.event(0, 1, 0, 2, 1);
        x.event(0, 0, -1, 0, 0);
        x.to(0, 9, 0, 30);
        addClimb(x, 1);
        x.law(2, 1);
        x.constant(2, 7, 0);
        x.keep(0, 1);
        return x;
    }

    /** LAW l and a RUN of it, the next one: climb(), ENDED at time 1. */
    private static void addClimb(MotionStepper x, int l) {
        x.law(1, 0);
        x.node(l, 1, 0, 0, 0);
        x.constant(l, 1, 0);
        x.node(l, 3, 0, 1, 0);
        x.side(l, 0, 1);
        int r = x.run(l, 0, 0);
        x.length(r, 1, 0);
        x.event(r, 2, 1, 1, 0);
        x.step(r);
    }

    /**
     * All is FULL: LAWS, SIGNALS, RUNS, the NODES of LAW 0, the POINTS of SIGNAL 0 (to time 15), the
     * EVENTS of RUN 0. RUN 1 is ENDED, a step of RUN 2 is WILD, one of RUN 3 is REFUSED; LAW 4 isn't
     * READY. RUN 0 is kept in place 0.
     */
    private static MotionStepper full() {
        MotionStepper x = Desks.swing(0);
        for (int q = 4; q < 48; q++) {
            x.constant(0, q, 0);
        }
        x.method(0, 3);
        for (int j = 0; j < 4; j++) {
            x.event(0, j % 2, 0, 0, 0);
        }
        x.to(0, 4, 0, 30);
        x.keep(0, 0);
        addClimb(x, 1);
        LawMaker wild = new LawMaker(x, 1, 0);
        wild.side(0, wild.number(Double.POSITIVE_INFINITY)).run(0, 0);
        LawMaker jump = new LawMaker(x, 1, 0);
        int ahead = jump.node(6, jump.time(), 0, 0);
        jump.side(0, jump.node(10, ahead, jump.constant(1L << 62, 0), jump.constant(0, 0))).run(0, 0);
        x.method(3, 4);
        x.length(3, 1, 30);
        for (int l = 4; l < 8; l++) {
            x.law(1, 0);
        }
        x.constant(4, 1, 0);
        for (int s = 0; s < 8; s++) {
            x.signal(s % 2);
        }
        for (int p = 0; p < 16; p++) {
            x.point(0, p, p, 0);
        }
        return x;
    }

    private static void refused(String what, Edges.Call call, int answer) {
        Edges.dueUnchanged(what, RefusalsTest::half, call, answer);
    }

    private static void refusedWhenFull(String what, Edges.Call call, int answer) {
        Edges.dueUnchanged(what, RefusalsTest::full, call, answer);
    }

    // ---- a call that is refused changes nothing

    private static void numbersOfLaws() {
        refused("law of 0", x -> x.law(0, 0), NUMBER);
        refused("law of 7", x -> x.law(7, 0), NUMBER);
        refused("law of other bits", x -> x.law(2, 4), NUMBER);
        for (int k : NO_K) {
            refused("constant, k " + k, x -> x.constant(0, 1, k), NUMBER);
            refused("point, k " + k, x -> x.point(0, 5, 1, k), NUMBER);
            refused("run, k " + k, x -> x.run(0, 1, k), NUMBER);
        }
        int[] laws = {-1, 3};
        for (int l : laws) {
            refused("constant of law " + l, x -> x.constant(l, 1, 0), NUMBER);
            refused("node of law " + l, x -> x.node(l, 1, 0, 0, 0), NUMBER);
            refused("side of law " + l, x -> x.side(l, 0, 0), NUMBER);
            refused("run of law " + l, x -> x.run(l, 0, 0), NUMBER);
        }
        int[] kinds = {-1, 13};
        for (int kind : kinds) {
            refused("kind " + kind, x -> x.node(0, kind, 0, 0, 0), NUMBER);
        }
        refused("state of no variable", x -> x.node(0, 0, 2, 0, 0), NUMBER);
        for (int kind = 2; kind <= 12; kind++) {
            int needs = kind;
            refused("kind " + kind + " of no node", x -> x.node(0, needs, 5, 0, 0), NUMBER);
        }
        refused("sum with no node", x -> x.node(0, 2, 0, 5, 0), NUMBER);
        refused("choice with no node", x -> x.node(0, 10, 0, 0, 5), NUMBER);
        refused("power 10", x -> x.node(0, 11, 0, 10, 0), NUMBER);
        refused("no signal", x -> x.node(0, 12, 0, 2, 0), NUMBER);
        refused("side of no variable", x -> x.side(2, 2, 0), NUMBER);
        refused("side by no node", x -> x.side(2, 0, 1), NUMBER);
        refused("signal 2", x -> x.signal(2), NUMBER);
        refused("point of no signal", x -> x.point(2, 5, 1, 0), NUMBER);
        refused("many 11", x -> x.many(11), NUMBER);
    }

    private static void numbersOfRuns() {
        int[] runs = {-1, 2};
        for (int r : runs) {
            refused("set of run " + r, x -> x.set(r, 0, 1, 0), NUMBER);
            refused("method of run " + r, x -> x.method(r, 1), NUMBER);
            refused("length of run " + r, x -> x.length(r, 1, 0), NUMBER);
            refused("tolerance of run " + r, x -> x.tolerance(r, 1, 0, 0), NUMBER);
            refused("event of run " + r, x -> x.event(r, 0, 0, 0, 0), NUMBER);
            refused("step of run " + r, x -> x.step(r), NUMBER);
            refused("to of run " + r, x -> x.to(r, 99, 0, 9), NUMBER);
            refused("count of run " + r, x -> x.count(r, 0), NUMBER);
        }
        for (int k : NO_K) {
            refused("set, k " + k, x -> x.set(0, 0, 1, k), NUMBER);
            refused("length, k " + k, x -> x.length(0, 1, k), NUMBER);
            refused("tolerance, k " + k, x -> x.tolerance(0, 1, 0, k), NUMBER);
            refused("to, k " + k, x -> x.to(0, 99, k, 9), NUMBER);
        }
        refused("set of no variable", x -> x.set(0, 2, 1, 0), NUMBER);
        refused("method 7", x -> x.method(0, 7), NUMBER);
        refused("method -1", x -> x.method(0, -1), NUMBER);
        refused("length 0", x -> x.length(0, 0, 0), NUMBER);
        refused("length 1025", x -> x.length(0, 1025, 0), NUMBER);
        refused("tolerance, a 0", x -> x.tolerance(0, 0, 5, 0), NUMBER);
        refused("tolerance, b -1", x -> x.tolerance(0, 5, -1, 0), NUMBER);
        refused("event of no node", x -> x.event(0, 5, 0, 0, 0), NUMBER);
        refused("direction 2", x -> x.event(0, 0, 2, 0, 0), NUMBER);
        refused("action 4", x -> x.event(0, 0, 0, 4, 0), NUMBER);
        refused("most 0", x -> x.to(0, 99, 0, 0), NUMBER);
        refused("most 201", x -> x.to(0, 99, 0, 201), NUMBER);
        refused("count 8", x -> x.count(0, 8), NUMBER);
    }

    private static void numbersOfKept() {
        int[] runs = {-1, 2};
        for (int r : runs) {
            refused("keep of run " + r, x -> x.keep(r, 1), NUMBER);
            refused("back of run " + r, x -> x.back(r, 1), NUMBER);
            refused("unlike of run " + r, x -> x.unlike(r, 1), NUMBER);
        }
        int[] places = {-1, 4};
        for (int p : places) {
            refused("keep in " + p, x -> x.keep(1, p), NUMBER);
            refused("back from " + p, x -> x.back(0, p), NUMBER);
            refused("unlike in " + p, x -> x.unlike(0, p), NUMBER);
        }
    }

    private static void states() {
        refused("side of a law that a run has", x -> x.side(0, 0, 2), STATE);
        refused("point at the last time", x -> x.point(0, 4, 1, 0), STATE);
        refused("point ahead of it", x -> x.point(0, 3, 1, 0), STATE);
        refused("run of a law that is not ready", x -> x.run(2, 0, 0), STATE);
        refused("set of an ended one", x -> x.set(1, 0, 5, 0), STATE);
        refused("LEAP of one variable", x -> x.method(1, 6), STATE);
        refused("step of an ended one", x -> x.step(1), STATE);
        refused("to of an ended one", x -> x.to(1, 9, 0, 9), STATE);
        refused("to of an ended one, where it is", x -> x.to(1, 1, 0, 9), STATE);
        refused("to ahead", x -> x.to(0, -99, 0, 9), STATE);
        refused("back of nothing", x -> x.back(0, 0), STATE);
        refused("unlike of nothing", x -> x.unlike(0, 2), STATE);
    }

    private static void fulls() {
        refusedWhenFull("a ninth law", x -> x.law(1, 0), FULL);
        refusedWhenFull("a 49th constant", x -> x.constant(0, 1, 0), FULL);
        for (int kind = 0; kind <= 12; kind++) {
            int any = kind;
            refusedWhenFull("a 49th node of kind " + kind, x -> x.node(0, any, 0, 0, 0), FULL);
        }
        refusedWhenFull("a ninth signal", x -> x.signal(1), FULL);
        refusedWhenFull("a 17th point", x -> x.point(0, 16, 1, 0), FULL);
        refusedWhenFull("a fifth run", x -> x.run(0, 0, 0), FULL);
        refusedWhenFull("a fifth event", x -> x.event(0, 0, 0, 1, 0), FULL);
    }

    private static void wildAndSmall() {
        refusedWhenFull("a WILD step", x -> x.step(2), WILD);
        refusedWhenFull("WILD on the way", x -> x.to(2, 9, 0, 9), WILD);
        refusedWhenFull("a REFUSED step", x -> x.step(3), SMALL);
        refusedWhenFull("REFUSED on the way", x -> x.to(3, 9, 0, 9), SMALL);
    }

    // ---- what tells changes nothing

    private static void whatTells() {
        MotionStepper there = half();
        for (int i = 0; i < 2; i++) {
            int v = i;
            refusedNot("state", there, x -> x.state(0, v));
            refusedNot("halves", there, x -> x.halves(0, v));
            refusedNot("between", there, x -> x.between(0, v, 1, 1));
            refusedNot("stage", there, x -> x.stage(0, 5, v));
        }
        for (int what = 0; what < 4; what++) {
            int w = what;
            refusedNot("clock", there, x -> x.clock(0, w));
        }
        for (int what = 0; what < 8; what++) {
            int w = what;
            refusedNot("count", there, x -> x.count(0, w));
        }
        for (int what = 0; what <= 10; what++) {
            int w = what;
            refusedNot("many", there, x -> x.many(w));
        }
        refusedNot("value", there, x -> x.value(0, 4));
        refusedNot("fired", there, x -> x.fired(0, 0, 1));
        refusedNot("unlike", there, x -> x.unlike(1, 1));
    }

    /** A call that is answered, and changes nothing all the same. */
    private static void refusedNot(String what, MotionStepper there, Edges.Call call) {
        Edges.dueUnchanged(what, RefusalsTest::half, call, call.on(there));
    }

    private static void none() {
        long none = MotionStepper.NONE;
        Edges.due("NONE", none, 0x7FF8000000000000L);
        Edges.due("NONE is not a number", none, Double.doubleToLongBits(Double.NaN));
        Edges.Maker maker = RefusalsTest::half;
        Edges.dueUnchanged("state", maker, x -> x.state(0, 2), none);
        Edges.dueUnchanged("state", maker, x -> x.state(2, 0), none);
        Edges.dueUnchanged("clock", maker, x -> x.clock(0, 4), none);
        Edges.dueUnchanged("clock", maker, x -> x.clock(2, 0), none);
        Edges.dueUnchanged("stage", maker, x -> x.stage(0, 6, 0), none);
        Edges.dueUnchanged("stage", maker, x -> x.stage(0, 1, 2), none);
        Edges.dueUnchanged("value", maker, x -> x.value(0, 5), none);
        Edges.dueUnchanged("between", maker, x -> x.between(0, 0, 3, 1), none);
        Edges.dueUnchanged("between", maker, x -> x.between(0, 2, 1, 1), none);
        Edges.dueUnchanged("fired", maker, x -> x.fired(0, 64, 0), none);
        Edges.dueUnchanged("fired", maker, x -> x.fired(0, 0, 2), none);
        Edges.dueUnchanged("halves", maker, x -> x.halves(0, 2), none);
        Edges.dueUnchanged("halves of an ended one", maker, x -> x.halves(1, 0), none);
        Edges.dueUnchanged("halves that are WILD", RefusalsTest::full, x -> x.halves(2, 0), none);
    }

    // ---- of several refusals the first one named

    private static void numberAheadOfFull() {
        refusedWhenFull("law: n, FULL", x -> x.law(7, 0), NUMBER);
        refusedWhenFull("law: bits, FULL", x -> x.law(1, 2), NUMBER);
        refusedWhenFull("constant: k, FULL", x -> x.constant(0, 1, 31), NUMBER);
        refusedWhenFull("node: kind, FULL", x -> x.node(0, 13, 0, 0, 0), NUMBER);
        refusedWhenFull("node: variable, FULL", x -> x.node(0, 0, 2, 0, 0), NUMBER);
        refusedWhenFull("node: node, FULL", x -> x.node(0, 6, 48, 0, 0), NUMBER);
        refusedWhenFull("node: b, FULL", x -> x.node(0, 11, 0, 10, 0), NUMBER);
        refusedWhenFull("node: signal, FULL", x -> x.node(0, 12, 0, 8, 0), NUMBER);
        refusedWhenFull("signal: how, FULL", x -> x.signal(2), NUMBER);
        refusedWhenFull("point: k, FULL", x -> x.point(0, 16, 1, 31), NUMBER);
        refusedWhenFull("run: law, FULL", x -> x.run(8, 0, 0), NUMBER);
        refusedWhenFull("run: k, FULL", x -> x.run(0, 0, 31), NUMBER);
        refusedWhenFull("event: node, FULL", x -> x.event(0, 48, 0, 0, 0), NUMBER);
        refusedWhenFull("event: direction, FULL", x -> x.event(0, 0, -2, 0, 0), NUMBER);
        refusedWhenFull("event: action, FULL", x -> x.event(0, 0, 0, -1, 0), NUMBER);
    }

    private static void numberAheadOfState() {
        refusedWhenFull("side: variable, STATE", x -> x.side(0, 2, 0), NUMBER);
        refusedWhenFull("side: node, STATE", x -> x.side(0, 0, 48), NUMBER);
        refusedWhenFull("point: k, STATE", x -> x.point(0, 15, 1, -1), NUMBER);
        refusedWhenFull("run: k, STATE, FULL", x -> x.run(4, 0, 31), NUMBER);
        refusedWhenFull("set: variable, STATE", x -> x.set(1, 1, 0, 0), NUMBER);
        refusedWhenFull("set: k, STATE", x -> x.set(1, 0, 0, 31), NUMBER);
        refusedWhenFull("method: run, STATE", x -> x.method(4, 6), NUMBER);
        refusedWhenFull("to: k, STATE", x -> x.to(1, 9, 31, 9), NUMBER);
        refusedWhenFull("to: most, STATE", x -> x.to(1, 9, 0, 0), NUMBER);
        refusedWhenFull("to: most, signs", x -> x.to(0, -9, 0, 201), NUMBER);
        refusedWhenFull("to: most, WILD", x -> x.to(2, 9, 0, 201), NUMBER);
        refusedWhenFull("to: most, SMALL", x -> x.to(3, 9, 0, 201), NUMBER);
        refusedWhenFull("back: run, STATE", x -> x.back(4, 1), NUMBER);
        refusedWhenFull("unlike: run, STATE", x -> x.unlike(4, 1), NUMBER);
    }

    private static void stateAheadOfFull() {
        refusedWhenFull("point: time, FULL", x -> x.point(0, 15, 1, 0), STATE);
        refusedWhenFull("point: an earlier time, FULL", x -> x.point(0, -1, 1, 0), STATE);
        refusedWhenFull("run: READY, FULL", x -> x.run(4, 0, 0), STATE);
    }

    private static void stateAheadOfWildAndSmall() {
        refusedWhenFull("to: signs, WILD", x -> x.to(2, -9, 0, 9), STATE);
        refusedWhenFull("to: signs, SMALL", x -> x.to(3, -9, 0, 9), STATE);
        Edges.Maker ended = () -> {
            LawMaker law = new LawMaker(new MotionStepper(), 1, 0);
            int time = law.time();
            int q = law.node(3, time, law.constant(1, 0), 0);
            law.side(0, law.table(time, new double[] {1}, new double[] {1, Double.NaN}));
            law.run(0, 0);
            law.desk.length(0, 1, 0);
            law.desk.event(0, q, 1, 1, 0);
            law.desk.step(0);
            return law.desk;
        };
        Edges.dueUnchanged("step: ENDED, WILD", ended, x -> x.step(0), STATE);
        Edges.dueUnchanged("to: ENDED, WILD", ended, x -> x.to(0, 9, 0, 9), STATE);
        Edges.dueUnchanged("to: ENDED, T is t", ended, x -> x.to(0, 1, 0, 9), STATE);
        Edges.dueUnchanged("to: ENDED, signs", ended, x -> x.to(0, -9, 0, 9), STATE);
    }
}
