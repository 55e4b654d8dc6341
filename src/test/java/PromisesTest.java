/** For each promise of the document: ordinary inputs, its edges, and wrong inputs. */
public final class PromisesTest {
    private static final int NUMBER = MotionStepper.NUMBER;
    private static final int STATE = MotionStepper.STATE;
    private static final int FULL = MotionStepper.FULL;
    private static final int WILD = MotionStepper.WILD;
    private static final int SMALL = MotionStepper.SMALL;
    private static final long NONE = MotionStepper.NONE;
    private static final long MOST = Long.MAX_VALUE;
    private static final double INFINITY = Double.POSITIVE_INFINITY;

    private static int checks;
    private static int wrong;

    private static void due(String what, long got, long want) {
        checks++;
        if (got != want) {
            wrong++;
            System.out.println(what + " answered " + got + ", due is " + want);
        }
    }

    private static void dueNumber(String what, long got, double want) {
        checks++;
        if (got != Double.doubleToLongBits(want)) {
            wrong++;
            System.out.println(what + " answered " + Double.longBitsToDouble(got) + ", due is " + want);
        }
    }

    public static void main(String[] args) {
        newObject();
        law();
        constant();
        node();
        nodeValues();
        edgesOfNodeValues();
        side();
        signal();
        point();
        signalValues();
        many();
        run();
        set();
        method();
        length();
        tolerance();
        event();
        step();
        writtenMethods();
        narrowSteps();
        wildSteps();
        pairControl();
        refusedPair();
        to();
        toIsCut();
        toWithControl();
        toIsUndone();
        state();
        clock();
        count();
        stage();
        value();
        between();
        betweenAsTaken();
        events();
        orderOfEvents();
        actions();
        lostStates();
        fired();
        halves();
        keepAndBack();
        unlike();
        System.out.println(checks + " checks, " + wrong + " wrong");
        System.exit(wrong == 0 ? 0 : 1);
    }

    /** The SIDES of Desks.swing(). */
    private static double[] f(double t, double[] x) {
        return new double[] {x[1], t - x[0]};
    }

    private static double[] plus(double[] x, double h, double[] k) {
        return new double[] {x[0] + h * k[0], x[1] + h * k[1]};
    }

    // ---- promise 1

    private static void newObject() {
        MotionStepper x = new MotionStepper();
        for (int what = 0; what <= 10; what++) {
            due("many of a new object", x.many(what), 0);
        }
        due("a law of a new object", x.constant(0, 1, 0), NUMBER);
        due("a signal of a new object", x.point(0, 0, 0, 0), NUMBER);
        due("a run of a new object", x.step(0), NUMBER);
        Desks.decay();
        due("another object's laws", x.many(0), 0);
        MotionStepper y = Desks.decay();
        for (int p = 0; p < 4; p++) {
            due("nothing kept", y.back(0, p), STATE);
        }
    }

    // ---- promises 2 to 8

    private static void law() {
        MotionStepper x = new MotionStepper();
        due("law(0, 0)", x.law(0, 0), NUMBER);
        due("law(-1, 0)", x.law(-1, 0), NUMBER);
        due("law(7, 0)", x.law(7, 0), NUMBER);
        due("law(33, 0)", x.law(33, 0), NUMBER);
        due("law(1, 2)", x.law(1, 2), NUMBER);
        due("law(6, 64)", x.law(6, 64), NUMBER);
        due("law(6, -1)", x.law(6, -1), NUMBER);
        due("law(3, MIN)", x.law(3, Integer.MIN_VALUE), NUMBER);
        due("law(6, 63)", x.law(6, 63), 0);
        for (int l = 1; l < 8; l++) {
            due("law " + l, x.law(1 + l % 6, 1), l);
        }
        due("a ninth law", x.law(1, 0), FULL);
        due("a ninth law of no number", x.law(1, 2), NUMBER);
        due("laws", x.many(0), 8);
    }

    private static void constant() {
        MotionStepper x = new MotionStepper();
        x.law(1, 0);
        due("constant of no law", x.constant(1, 0, 0), NUMBER);
        due("constant of no law", x.constant(-1, 0, 0), NUMBER);
        due("constant, k -1", x.constant(0, 0, -1), NUMBER);
        due("constant, k 31", x.constant(0, 0, 31), NUMBER);
        long[] numbers = {0, 1, -1, MOST, Long.MIN_VALUE, (1L << 53) + 1, (1L << 53) + 3, 3};
        int[] powers = {0, 30, 1, 0, 30, 0, 7, 2};
        for (int q = 0; q < numbers.length; q++) {
            due("constant " + q, x.constant(0, numbers[q], powers[q]), q);
        }
        x.side(0, 0, 0);
        x.run(0, 0, 0);
        for (int q = 0; q < numbers.length; q++) {
            dueNumber("constant " + q, x.value(0, q), (double) numbers[q] / (1L << powers[q]));
        }
        for (int q = numbers.length; q < 48; q++) {
            due("constant " + q, x.constant(0, 5, 0), q);
        }
        due("a 49th constant", x.constant(0, 5, 0), FULL);
        due("a 49th constant, k 31", x.constant(0, 5, 31), NUMBER);
        due("a 49th node", x.node(0, 1, 0, 0, 0), FULL);
    }

    private static void node() {
        MotionStepper x = new MotionStepper();
        x.law(2, 0);
        due("node of no law", x.node(1, 1, 0, 0, 0), NUMBER);
        due("node of no law", x.node(-1, 1, 0, 0, 0), NUMBER);
        due("kind -1", x.node(0, -1, 0, 0, 0), NUMBER);
        due("kind 13", x.node(0, 13, 0, 0, 0), NUMBER);
        due("state 2 of 2", x.node(0, 0, 2, 0, 0), NUMBER);
        due("state -1", x.node(0, 0, -1, 0, 0), NUMBER);
        for (int kind = 2; kind <= 12; kind++) {
            due("kind " + kind + " of no node", x.node(0, kind, 0, 0, 0), NUMBER);
        }
        due("state 1", x.node(0, 0, 1, -9, 99), 0);
        due("time, with numbers that it does not need", x.node(0, 1, -1, -1, -1), 1);
        int q = 2;
        for (int kind = 2; kind <= 11; kind++) {
            boolean two = kind <= 5 || kind == 8 || kind == 9 || kind == 10;
            due("kind " + kind + ", a", x.node(0, kind, q, 0, 0), NUMBER);
            due("kind " + kind + ", a", x.node(0, kind, -1, 0, 0), NUMBER);
            if (two) {
                due("kind " + kind + ", b", x.node(0, kind, 0, q, 0), NUMBER);
                due("kind " + kind + ", b", x.node(0, kind, 0, -1, 0), NUMBER);
            }
            if (kind == 10) {
                due("kind 10, c", x.node(0, kind, 0, 0, q), NUMBER);
                due("kind 10, c", x.node(0, kind, 0, 0, -1), NUMBER);
            }
            int b = two ? q - 1 : kind == 11 ? 9 : -5;
            due("kind " + kind, x.node(0, kind, q - 1, b, kind == 10 ? 0 : -5), q);
            q++;
        }
        due("power -1", x.node(0, 11, 0, -1, 0), NUMBER);
        due("power 10", x.node(0, 11, 0, 10, 0), NUMBER);
        due("power 0", x.node(0, 11, 0, 0, 0), q);
        due("a signal that is not there", x.node(0, 12, 0, 0, 0), NUMBER);
        x.signal(0);
        due("signal -1", x.node(0, 12, 0, -1, 0), NUMBER);
        due("signal 1", x.node(0, 12, 0, 1, 0), NUMBER);
        due("signal 0", x.node(0, 12, 0, 0, 0), q + 1);
        due("nodes", x.many(3), q + 2);
        for (q = x.many(3); q < 48; q++) {
            due("node " + q, x.node(0, 1, 0, 0, 0), q);
        }
        due("node 48", x.node(0, 2, 47, 47, 0), FULL);
        due("node 48 of a node that is not there", x.node(0, 2, 48, 0, 0), NUMBER);
        due("a constant behind 48 nodes", x.constant(0, 1, 0), FULL);
    }

    private static void nodeValues() {
        double[] numbers = {0.0, 3.5, -2.25, 1e3};
        for (double a : numbers) {
            for (double b : numbers) {
                MotionStepper x = new MotionStepper();
                x.law(2, 0);
                x.node(0, 0, 0, 0, 0);
                x.node(0, 0, 1, 0, 0);
                x.node(0, 1, 0, 0, 0);
                for (int kind = 2; kind <= 10; kind++) {
                    x.node(0, kind, 0, 1, 2);
                }
                for (int m = 0; m <= 9; m++) {
                    x.node(0, 11, 0, m, 0);
                }
                x.side(0, 0, 0);
                x.side(0, 1, 0);
                x.run(0, 77, 0);
                x.set(0, 0, (long) (a * 4), 2);
                x.set(0, 1, (long) (b * 4), 2);
                double[] want = {a, b, 77, a + b, a - b, a * b, a / b, -a, Math.abs(a),
                    Math.min(a, b), Math.max(a, b), a < 0 ? b : 77};
                for (int q = 0; q < want.length; q++) {
                    dueNumber("node " + q + " of " + a + ", " + b, x.value(0, q), want[q]);
                }
                double power = 1.0;
                for (int m = 0; m <= 9; m++) {
                    dueNumber("power " + m + " of " + a, x.value(0, 12 + m), power);
                    power *= a;
                }
            }
        }
    }

    /** The values of the first NODES of edges(). */
    private static final double[] EDGES = {0.0, -0.0, 1.0, INFINITY, -INFINITY, Double.NaN, 0x1p62,
        0x1p558, 0x1p372, 0x1p930, 0x1p41, 0x1p971, 0x1p53 - 1, Double.MAX_VALUE, -Double.MAX_VALUE,
        0x1p-971, 1 / Double.MAX_VALUE};

    /** LAW 0, whose NODES have the values EDGES, and RUN 0 of it. */
    private static MotionStepper edges() {
        MotionStepper x = new MotionStepper();
        x.law(1, 0);
        x.constant(0, 0, 0);
        x.node(0, 6, 0, 0, 0);
        x.constant(0, 1, 0);
        x.node(0, 5, 2, 0, 0);
        x.node(0, 5, 2, 1, 0);
        x.node(0, 5, 0, 0, 0);
        x.constant(0, 1L << 62, 0);
        x.node(0, 11, 6, 9, 0);
        x.node(0, 11, 6, 6, 0);
        x.node(0, 4, 7, 8, 0);
        x.constant(0, 1L << 41, 0);
        x.node(0, 4, 9, 10, 0);
        x.constant(0, (1L << 53) - 1, 0);
        x.node(0, 4, 11, 12, 0);
        x.node(0, 6, 13, 0, 0);
        x.node(0, 5, 2, 11, 0);
        x.node(0, 5, 2, 13, 0);
        x.side(0, 0, 13);
        x.run(0, 0, 0);
        return x;
    }

    private static void edgesOfNodeValues() {
        MotionStepper x = edges();
        for (int q = 0; q < EDGES.length; q++) {
            dueNumber("edge " + q, x.value(0, q), EDGES[q]);
        }
        due("the greatest is FINITE", x.step(0), 0);
        dueNumber("its eighth", x.state(0, 0), Double.MAX_VALUE / 8);
        x.signal(0);
        x.signal(1);
        x.point(1, 0, 5, 0);
        int[] few = {0, 1, 3, 4, 5, 13};
        int q = EDGES.length;
        for (int a : few) {
            x.node(0, 6, a, 0, 0);
            dueNumber("negated " + EDGES[a], x.value(0, q++), -EDGES[a]);
            x.node(0, 7, a, 0, 0);
            dueNumber("size of " + EDGES[a], x.value(0, q++), Math.abs(EDGES[a]));
        }
        x.node(0, 12, 5, 0, 0);
        dueNumber("a signal without points at none", x.value(0, q++), 0.0);
        x.node(0, 12, 5, 1, 0);
        due("a signal at none", x.value(0, q++), NONE);
        x.node(0, 12, 3, 1, 0);
        dueNumber("a signal at infinity", x.value(0, q++), 5.0);
        x.node(0, 12, 4, 1, 0);
        dueNumber("a signal at minus infinity", x.value(0, q++), 5.0);
        x.node(0, 11, 5, 0, 0);
        dueNumber("power 0 of none", x.value(0, q++), 1.0);
        x.node(0, 11, 5, 1, 0);
        due("power 1 of none", x.value(0, q++), NONE);
        x.node(0, 11, 4, 3, 0);
        dueNumber("power 3 of minus infinity", x.value(0, q++), -INFINITY);
        x.node(0, 10, 5, 3, 2);
        dueNumber("choice by none", x.value(0, q++), 1.0);
        x.node(0, 10, 1, 3, 2);
        dueNumber("choice by -0.0", x.value(0, q++), 1.0);
        x.node(0, 10, 4, 2, 5);
        dueNumber("choice that does not look at none", x.value(0, q++), 1.0);
        x.node(0, 10, 3, 2, 5);
        due("choice of none", x.value(0, q), NONE);
        pairsOfEdges();
    }

    /** Every operation of two edges. */
    private static void pairsOfEdges() {
        int[] few = {0, 1, 2, 3, 4, 5, 13, 14, 15};
        for (int a : few) {
            for (int b : few) {
                MotionStepper x = edges();
                int[] kinds = {2, 3, 4, 5, 8, 9};
                double p = EDGES[a];
                double q = EDGES[b];
                double[] want =
                    {p + q, p - q, p * q, p / q, Math.min(p, q), Math.max(p, q)};
                for (int i = 0; i < kinds.length; i++) {
                    int node = x.node(0, kinds[i], a, b, 0);
                    dueNumber("kind " + kinds[i] + " of " + p + ", " + q, x.value(0, node), want[i]);
                }
            }
        }
    }

    private static void side() {
        MotionStepper x = new MotionStepper();
        x.law(2, 0);
        x.law(1, 0);
        x.node(0, 0, 0, 0, 0);
        x.node(1, 0, 0, 0, 0);
        due("side of no law", x.side(2, 0, 0), NUMBER);
        due("side of no law", x.side(-1, 0, 0), NUMBER);
        due("side of no variable", x.side(0, 2, 0), NUMBER);
        due("side of no variable", x.side(0, -1, 0), NUMBER);
        due("side of no node", x.side(0, 0, 1), NUMBER);
        due("side of no node", x.side(0, 0, -1), NUMBER);
        due("side", x.side(0, 1, 0), 1);
        due("not ready", x.run(0, 0, 0), STATE);
        due("side", x.side(0, 0, 0), 1);
        due("side again", x.side(0, 0, 0), 1);
        due("run", x.run(0, 0, 0), 0);
        due("side behind a run", x.side(0, 0, 0), STATE);
        due("no node behind a run", x.side(0, 0, 1), NUMBER);
        due("side of another law", x.side(1, 0, 0), 1);
        due("run", x.run(1, 0, 0), 1);
        x.keep(1, 0);
        x.back(0, 0);
        due("side of a law that no run has any more", x.side(0, 0, 0), 1);
        due("side of a law that two runs have", x.side(1, 0, 0), STATE);
    }

    private static void signal() {
        MotionStepper x = new MotionStepper();
        due("signal(-1)", x.signal(-1), NUMBER);
        due("signal(2)", x.signal(2), NUMBER);
        for (int s = 0; s < 8; s++) {
            due("signal " + s, x.signal(s % 2), s);
        }
        due("a ninth signal", x.signal(0), FULL);
        due("a ninth signal of no number", x.signal(2), NUMBER);
        due("signals", x.many(1), 8);
    }

    private static void point() {
        MotionStepper x = new MotionStepper();
        x.signal(0);
        due("point of no signal", x.point(1, 0, 0, 0), NUMBER);
        due("point of no signal", x.point(-1, 0, 0, 0), NUMBER);
        due("point, k 31", x.point(0, 0, 0, 31), NUMBER);
        due("point, k -1", x.point(0, 0, 0, -1), NUMBER);
        due("point", x.point(0, -4, 0, 0), 0);
        due("the same time", x.point(0, -8, 0, 1), STATE);
        due("an earlier time", x.point(0, -5, 0, 0), STATE);
        due("a later time", x.point(0, -7, 0, 1), 1);
        for (int p = 2; p < 16; p++) {
            due("point " + p, x.point(0, p, 0, 0), p);
        }
        due("a 17th point", x.point(0, 16, 0, 0), FULL);
        due("a 17th point that is not later", x.point(0, 15, 0, 0), STATE);
        due("a 17th point, k 31", x.point(0, 16, 0, 31), NUMBER);
        x.signal(1);
        x.point(1, MOST - 1, 0, 0);
        due("later as a long, not as a double", x.point(1, MOST, 0, 0), STATE);
    }

    private static void signalValues() {
        MotionStepper x = new MotionStepper();
        x.signal(0);
        x.signal(1);
        for (int s = 0; s < 2; s++) {
            x.point(s, 1, 10, 0);
            x.point(s, 4, 11, 0);
            x.point(s, 6, -3, 0);
        }
        x.law(1, 0);
        x.node(0, 0, 0, 0, 0);
        x.node(0, 12, 0, 0, 0);
        x.node(0, 12, 0, 1, 0);
        x.side(0, 0, 0);
        x.run(0, 0, 0);
        double[] at = {-9, 1, 2, 3, 4, 5, 6, 7};
        double[] steps = {10, 10, 10, 10, 11, 11, -3, -3};
        double[] lines = {10, 10, 10 + (11.0 - 10.0) * (1.0 / 3.0), 10 + (11.0 - 10.0) * (2.0 / 3.0),
            11, 11 + (-3.0 - 11.0) * (1.0 / 2.0), -3, -3};
        for (int i = 0; i < at.length; i++) {
            x.set(0, 0, (long) at[i], 0);
            dueNumber("STEP at " + at[i], x.value(0, 1), steps[i]);
            dueNumber("LINE at " + at[i], x.value(0, 2), lines[i]);
        }
    }

    private static void many() {
        MotionStepper x = new MotionStepper();
        x.law(1, 0);
        x.law(1, 0);
        x.constant(1, 1, 0);
        x.constant(1, 1, 0);
        x.signal(0);
        x.side(1, 0, 1);
        x.run(1, 0, 0);
        int[] want = {2, 1, 1, 0, 2, 0, 0, 0, 0, 0, 0};
        for (int what = 0; what < want.length; what++) {
            due("many(" + what + ")", x.many(what), want[what]);
        }
        due("many(-1)", x.many(-1), NUMBER);
        due("many(11)", x.many(11), NUMBER);
        due("many(MIN)", x.many(Integer.MIN_VALUE), NUMBER);
    }

    // ---- promises 9 to 14

    private static void run() {
        MotionStepper x = new MotionStepper();
        x.law(2, 0);
        x.constant(0, 1, 0);
        due("run of no law", x.run(1, 0, 0), NUMBER);
        due("run of no law", x.run(-1, 0, 0), NUMBER);
        due("run, k 31", x.run(0, 0, 31), NUMBER);
        due("run of a law that is not ready", x.run(0, 0, 0), STATE);
        x.side(0, 0, 0);
        due("run of a law that is not ready", x.run(0, 0, 30), STATE);
        x.side(0, 1, 0);
        due("run", x.run(0, -7, 2), 0);
        dueNumber("time", x.clock(0, 0), -1.75);
        dueNumber("length", x.clock(0, 1), 0.125);
        dueNumber("error", x.clock(0, 2), 0.0);
        dueNumber("h", x.clock(0, 3), 0.0);
        dueNumber("state 0", x.state(0, 0), 0.0);
        dueNumber("state 1", x.state(0, 1), 0.0);
        firstTolerances();
        for (int what = 0; what < 8; what++) {
            due("count " + what, x.count(0, what), 0);
        }
        for (int r = 1; r < 4; r++) {
            due("run " + r, x.run(0, r, 0), r);
        }
        due("a fifth run", x.run(0, 0, 0), FULL);
        x.law(1, 0);
        due("a fifth run of a law that is not ready", x.run(1, 0, 0), STATE);
        due("a fifth run, k -1", x.run(0, 0, -1), NUMBER);
        due("runs", x.many(2), 4);
    }

    private static void firstTolerances() {
        MotionStepper x = Desks.decay();
        x.set(0, 0, 1 << 20, 0);
        x.method(0, 4);
        x.length(0, 1, 10);
        x.step(0);
        double e = Double.longBitsToDouble(x.stage(0, 5, 0));
        due("there is an error", e != 0 ? 1 : 0, 1);
        dueNumber("2^-20 and 0.0", x.clock(0, 2), Math.abs(e) / 0x1p-20);
    }

    private static void set() {
        MotionStepper x = Desks.swing(2);
        due("set of no run", x.set(1, 0, 0, 0), NUMBER);
        due("set of no run", x.set(-1, 0, 0, 0), NUMBER);
        due("set of no variable", x.set(0, 2, 0, 0), NUMBER);
        due("set of no variable", x.set(0, -1, 0, 0), NUMBER);
        due("set, k 31", x.set(0, 0, 0, 31), NUMBER);
        due("set", x.set(0, 0, (1L << 53) + 3, 30), 1);
        dueNumber("wide", x.state(0, 0), (double) ((1L << 53) + 3) / (1 << 30));
        due("set", x.set(0, 1, (1L << 25) + 3, 3), 1);
        dueNumber("narrow", x.state(0, 1), (float) ((double) ((1L << 25) + 3) / 8));
        due("set", x.set(0, 1, Long.MIN_VALUE, 0), 1);
        dueNumber("narrow", x.state(0, 1), (float) -0x1p63);
        MotionStepper y = Desks.climb();
        y.event(0, 3, 1, 1, 0);
        y.step(0);
        due("ended", y.count(0, 5), 1);
        due("set of an ended one", y.set(0, 0, 0, 0), STATE);
        due("set of an ended one's other variable", y.set(0, 1, 0, 0), NUMBER);
        dueNumber("it stays", y.state(0, 0), 1.0);
    }

    private static void method() {
        MotionStepper x = Desks.decay();
        due("method of no run", x.method(1, 0), NUMBER);
        due("method of no run", x.method(-1, 0), NUMBER);
        due("method -1", x.method(0, -1), NUMBER);
        due("method 7", x.method(0, 7), NUMBER);
        for (int m = 5; m >= 0; m--) {
            due("method " + m, x.method(0, m), 1);
            due("method " + m, x.count(0, 1), m);
        }
        due("leap of one variable", x.method(0, 6), STATE);
        due("it stays", x.count(0, 1), 0);
        due("leap of two variables", Desks.swing(0).method(0, 6), 1);
    }

    private static void length() {
        MotionStepper x = Desks.decay();
        due("length of no run", x.length(1, 1, 0), NUMBER);
        due("length, k 31", x.length(0, 1, 31), NUMBER);
        due("length, k -1", x.length(0, 1, -1), NUMBER);
        due("length 0", x.length(0, 0, 0), NUMBER);
        due("length 1024 and more", x.length(0, (1L << 40) + 1, 30), NUMBER);
        due("length -1024 and more", x.length(0, -(1L << 40) - 1, 30), NUMBER);
        due("length MIN", x.length(0, Long.MIN_VALUE, 30), NUMBER);
        dueNumber("it stays", x.clock(0, 1), 0.125);
        due("length 1024", x.length(0, 1024, 0), 1);
        dueNumber("length 1024", x.clock(0, 1), 1024);
        due("length -1024", x.length(0, -(1L << 40), 30), 1);
        dueNumber("length -1024", x.clock(0, 1), -1024);
        due("length 2^-30", x.length(0, 1, 30), 1);
        dueNumber("length 2^-30", x.clock(0, 1), 0x1p-30);
        due("length -2^-30", x.length(0, -1, 30), 1);
        dueNumber("length -2^-30", x.clock(0, 1), -0x1p-30);
    }

    private static void tolerance() {
        MotionStepper x = Desks.decay();
        due("tolerance of no run", x.tolerance(1, 1, 0, 0), NUMBER);
        due("tolerance, k 31", x.tolerance(0, 1, 0, 31), NUMBER);
        due("tolerance, a 0", x.tolerance(0, 0, 0, 0), NUMBER);
        due("tolerance, b -1", x.tolerance(0, 1, -1, 0), NUMBER);
        due("tolerance", x.tolerance(0, 1, 0, 30), 1);
        due("tolerance", x.tolerance(0, MOST, MOST, 0), 1);
        long[][] pairs = {{1, 0}, {1, 1}, {3, 5}};
        for (long[] pair : pairs) {
            x = Desks.decay();
            x.method(0, 4);
            x.length(0, 1, 1);
            due("tolerance", x.tolerance(0, pair[0], pair[1], 0), 1);
            due("step", x.step(0), 0);
            double e = Double.longBitsToDouble(x.stage(0, 5, 0));
            due("there is an error", e != 0 ? 1 : 0, 1);
            dueNumber("error", x.clock(0, 2), Math.abs(e) / (pair[0] + pair[1] * 1.0));
        }
    }

    private static void event() {
        MotionStepper x = Desks.climb();
        due("event of no run", x.event(1, 0, 0, 0, 0), NUMBER);
        due("event of no run", x.event(-1, 0, 0, 0, 0), NUMBER);
        due("event of no node", x.event(0, 4, 0, 0, 0), NUMBER);
        due("event of no node", x.event(0, -1, 0, 0, 0), NUMBER);
        due("direction -2", x.event(0, 0, -2, 0, 0), NUMBER);
        due("direction 2", x.event(0, 0, 2, 0, 0), NUMBER);
        due("action -1", x.event(0, 0, 0, -1, 0), NUMBER);
        due("action 4", x.event(0, 0, 0, 4, 0), NUMBER);
        for (int j = 0; j < 4; j++) {
            due("event " + j, x.event(0, j, j % 3 - 1, j, -77), j);
        }
        due("a fifth event", x.event(0, 0, 0, 0, 0), FULL);
        due("a fifth event of action 4", x.event(0, 0, 0, 4, 0), NUMBER);
        due("events", x.count(0, 6), 4);
    }

    // ---- promise 15: steps

    private static void step() {
        MotionStepper x = Desks.decay();
        due("step of no run", x.step(1), NUMBER);
        due("step of no run", x.step(-1), NUMBER);
        due("step", x.step(0), 0);
        dueNumber("state", x.state(0, 0), 1.0 + 0.125 * -1.0);
        dueNumber("time", x.clock(0, 0), 0.125);
        due("taken", x.count(0, 2), 1);
        x.length(0, -1, 3);
        due("step back in time", x.step(0), 0);
        dueNumber("time", x.clock(0, 0), 0.0);
        MotionStepper y = Desks.climb();
        y.event(0, 3, 0, 1, 0);
        due("step", y.step(0), 0);
        due("step of an ended one", y.step(0), STATE);
        due("it stays", y.count(0, 2), 1);
    }

    private static void dueStep(String what, int method, double[] want, double[][] stages) {
        MotionStepper x = Desks.swing(0);
        x.method(0, method);
        due(what, x.step(0), 0);
        dueNumber(what + " 0", x.state(0, 0), want[0]);
        dueNumber(what + " 1", x.state(0, 1), want[1]);
        dueNumber(what + " time", x.clock(0, 0), 1.375);
        for (int j = 1; j <= 5; j++) {
            for (int i = 0; i < 2; i++) {
                if (j <= stages.length) {
                    dueNumber(what + " k" + j, x.stage(0, j, i), stages[j - 1][i]);
                } else {
                    due(what + " k" + j, x.stage(0, j, i), NONE);
                }
            }
        }
    }

    private static void writtenMethods() {
        double h = 0.375, g = h / 2, t = 1;
        double[] x = {3, 2};
        double[] k1 = f(t, x);
        dueStep("PLAIN", 0, plus(x, h, k1), new double[][] {k1});
        double[] k2 = f(t + g, plus(x, g, k1));
        dueStep("MIDDLE", 1, plus(x, h, k2), new double[][] {k1, k2});
        double[] k3 = f(t + h, plus(x, h, new double[] {2 * k2[0] - k1[0], 2 * k2[1] - k1[1]}));
        double[] s = new double[2];
        for (int i = 0; i < 2; i++) s[i] = (k1[i] + 4 * k2[i]) + k3[i];
        dueStep("THIRD", 2, plus(x, h / 6, s), new double[][] {k1, k2, k3});
        k3 = f(t + g, plus(x, g, k2));
        double[] k4 = f(t + h, plus(x, h, k3));
        for (int i = 0; i < 2; i++) s[i] = ((k1[i] + 2 * k2[i]) + 2 * k3[i]) + k4[i];
        dueStep("FOURTH", 3, plus(x, h / 6, s), new double[][] {k1, k2, k3, k4});
        double[] y = plus(x, h, k1), before = y;
        double[] last = null;
        for (int times = 0; times < 6; times++) {
            last = f(t + h, y);
            before = y;
            y = plus(x, h, last);
        }
        dueStep("BACKWARD", 5, y, new double[][] {k1, last});
        gaps((before[0] != y[0] ? 1 : 0) + (before[1] != y[1] ? 1 : 0));
        double[] speeds = {x[0], x[1] + g * k1[1]};
        k2 = f(t + g, speeds);
        double[] z = {x[0] + h * k2[0], speeds[1]};
        k3 = f(t + h, z);
        dueStep("LEAP", 6, new double[] {z[0], speeds[1] + g * k3[1]}, new double[][] {k1, k2, k3});
        pairStep();
    }

    private static void pairStep() {
        double h = 0.375, g = h / 2, t = 1, d = (3 * h) / 4;
        double[] x = {3, 2};
        double[] k1 = f(t, x);
        double[] k2 = f(t + g, plus(x, g, k1));
        double[] k3 = f(t + d, plus(x, d, k2));
        double[] s = new double[2];
        double[] e = new double[2];
        for (int i = 0; i < 2; i++) s[i] = (2 * k1[i] + 3 * k2[i]) + 4 * k3[i];
        double[] z = plus(x, h / 9, s);
        double[] k4 = f(t + h, z);
        for (int i = 0; i < 2; i++) {
            e[i] = (h / 72) * (((6 * k2[i] + 8 * k3[i]) - 5 * k1[i]) - 9 * k4[i]);
        }
        MotionStepper desk = Desks.swing(0);
        desk.method(0, 4);
        desk.tolerance(0, 1, 0, 0);
        due("PAIR", desk.step(0), 0);
        double[][] stages = {k1, k2, k3, k4, e};
        for (int i = 0; i < 2; i++) {
            dueNumber("PAIR " + i, desk.state(0, i), z[i]);
            for (int j = 1; j <= 5; j++) {
                dueNumber("PAIR stage " + j, desk.stage(0, j, i), stages[j - 1][i]);
            }
        }
        dueNumber("ERROR", desk.clock(0, 2), Math.max(Math.abs(e[0]), Math.abs(e[1])));
    }

    private static void gaps(int want) {
        MotionStepper x = Desks.swing(0);
        x.method(0, 5);
        x.step(0);
        due("GAP", x.count(0, 4), want);
        due("it still moves", want > 0 ? 1 : 0, 1);
        x.method(0, 0);
        x.step(0);
        due("GAP of another method", x.count(0, 4), 0);
        x = Desks.climb();
        x.method(0, 5);
        x.step(0);
        due("GAP of what stands", x.count(0, 4), 0);
    }

    private static void narrowSteps() {
        MotionStepper x = Desks.swing(1);
        x.set(0, 0, 1, 3);
        x.set(0, 1, (1L << 40) + 1, 40 - 10);
        x.method(0, 1);
        x.step(0);
        double h = 0.375, g = h / 2;
        double[] a = {0.125, (double) ((1L << 40) + 1) / (1 << 30)};
        double[] k1 = f(1, a);
        double[] y = {(float) (a[0] + g * k1[0]), a[1] + g * k1[1]};
        double[] k2 = f(1 + g, y);
        dueNumber("narrow", x.state(0, 0), (float) (a[0] + h * k2[0]));
        dueNumber("wide", x.state(0, 1), a[1] + h * k2[1]);
        due("k is not put", x.stage(0, 1, 0), Double.doubleToLongBits(a[1]));
    }

    private static void wildSteps() {
        MotionStepper x = Desks.decay();
        x.law(1, 1);
        x.constant(1, 1L << 62, 0);
        x.node(1, 11, 0, 2, 0);
        x.side(1, 0, 1);
        x.run(1, 0, 0);
        x.length(1, 32, 0);
        due("too much for a float", x.step(1), WILD);
        due("nothing taken", x.count(1, 2), 0);
        dueNumber("it stays", x.state(1, 0), 0.0);
        x.length(1, 1, 3);
        due("not too much for a float", x.step(1), 0);
        // x' = 1 / (t - 1): k1 is infinite at time 1, k4 of FOURTH at a step to it.
        MotionStepper y = new MotionStepper();
        y.law(1, 0);
        y.node(0, 1, 0, 0, 0);
        y.constant(0, 1, 0);
        y.node(0, 3, 0, 1, 0);
        y.node(0, 5, 1, 2, 0);
        y.side(0, 0, 3);
        y.run(0, 0, 0);
        y.length(0, 1, 0);
        int[] due = {0, 0, WILD, WILD, WILD, WILD};
        for (int m = 0; m < due.length; m++) {
            y.keep(0, 0);
            y.method(0, m);
            due("to a pole by " + m, y.step(0), due[m]);
            y.back(0, 0);
        }
        y.run(0, 1, 0);
        due("at a pole", y.step(1), WILD);
        leapOfOtherSides();
    }

    /** Values of SIDES that LEAP does not use must be FINITE, too. */
    private static void leapOfOtherSides() {
        MotionStepper x = new MotionStepper();
        x.law(2, 0);
        x.node(0, 0, 0, 0, 0);
        x.node(0, 0, 1, 0, 0);
        x.node(0, 5, 1, 1, 0);
        x.constant(0, 1, 0);
        x.side(0, 0, 2);
        x.side(0, 1, 3);
        x.run(0, 0, 0);
        x.method(0, 6);
        due("k1 of a place is none", x.step(0), WILD);
        x.set(0, 1, 1, 0);
        due("k1 of a place is a number", x.step(0), 0);
    }

    private static void pairControl() {
        int[] rejected = new int[6];
        for (int i = 0; i < rejected.length; i++) {
            MotionStepper x = Desks.decay();
            x.method(0, 4);
            x.length(0, 2, 0);
            x.tolerance(0, 1L << 5 * (5 - i), 0, 24);
            rejected[i] = x.step(0);
            due("rejected", x.count(0, 3), rejected[i]);
            double error = Double.longBitsToDouble(x.clock(0, 2));
            double h = Double.longBitsToDouble(x.clock(0, 3));
            due("taken", error <= 1 ? 1 : 0, 1);
            dueNumber("time", x.clock(0, 0), h);
            double more = error <= 1 / 64.0 ? h * 4 : error <= 1 / 8.0 ? h * 2 : h;
            dueNumber("length behind", x.clock(0, 1), rejected[i] > 0 ? h : more);
        }
        due("not rejected", rejected[0], 0);
        due("rejected", rejected[5] > 2 ? 1 : 0, 1);
        MotionStepper x = Desks.climb();
        x.method(0, 4);
        x.length(0, 512, 0);
        x.step(0);
        dueNumber("an error of 0", x.clock(0, 2), 0.0);
        dueNumber("at most 1024", x.clock(0, 1), 1024.0);
        x.length(0, -300, 0);
        x.step(0);
        dueNumber("at most -1024", x.clock(0, 1), -1024.0);
        x.length(0, 1025, 2);
        x.step(0);
        dueNumber("at most 1024", x.clock(0, 1), 1024.0);
        x.length(0, -1025, 2);
        x.step(0);
        dueNumber("at most -1024", x.clock(0, 1), -1024.0);
        x.step(0);
        dueNumber("h", x.clock(0, 3), -1024.0);
        controlEdges();
    }

    /** x' jumps to 72 at time 1: a step to it has an e of -9 but for rounding, errors on the edges. */
    private static void controlEdges() {
        MotionStepper x = new MotionStepper();
        x.signal(0);
        x.point(0, 0, 0, 0);
        x.point(0, 1, 72, 0);
        x.law(1, 0);
        x.node(0, 1, 0, 0, 0);
        x.node(0, 12, 0, 0, 0);
        x.side(0, 0, 1);
        x.run(0, 0, 0);
        x.method(0, 4);
        x.length(0, 1, 0);
        double e = (1.0 / 72) * -648.0;
        due("e is exact", e == -9.0 ? 1 : 0, 1);
        long[] tolerances = {9 * 64, 9 * 64 - 1, 9 * 8, 9 * 8 - 1, 9};
        double[] behind = {4, 2, 2, 1, 1};
        for (int i = 0; i < tolerances.length; i++) {
            x.keep(0, 0);
            x.tolerance(0, tolerances[i], 0, 0);
            due("edge " + i, x.step(0), 0);
            dueNumber("edge length " + i, x.clock(0, 1), behind[i]);
            dueNumber("edge e " + i, x.stage(0, 5, 0), e);
            dueNumber("edge error " + i, x.clock(0, 2), 9.0 / tolerances[i]);
            x.back(0, 0);
        }
        x.keep(0, 0);
        x.tolerance(0, 9, 0, 3);
        due("an error of 8", x.step(0), 1);
        dueNumber("half of it", x.clock(0, 1), 0.5);
        x.back(0, 0);
        x.tolerance(0, 8, 0, 3);
        due("an error of 9", x.step(0), 1);
        dueNumber("a quarter of it", x.clock(0, 1), 0.25);
        x.back(0, 0);
        x.tolerance(0, 71, 0, 3);
        due("an error above 1", x.step(0), 1);
    }

    private static void refusedPair() {
        // A jump at any time above 0 is never small enough for the least tolerance.
        MotionStepper x = new MotionStepper();
        x.law(1, 0);
        x.node(0, 1, 0, 0, 0);
        x.node(0, 6, 0, 0, 0);
        x.constant(0, 1L << 62, 0);
        x.constant(0, 0, 0);
        x.node(0, 10, 1, 2, 3);
        x.node(0, 0, 0, 0, 0);
        x.side(0, 0, 4);
        x.run(0, 0, 0);
        x.method(0, 4);
        x.set(0, 0, 3, 0);
        x.length(0, 1024, 0);
        x.tolerance(0, 1, 0, 30);
        due("20 quarters are too many", x.step(0), SMALL);
        x.length(0, 1, 28);
        due("less than 2^-30", x.step(0), SMALL);
        due("nothing taken", x.count(0, 2), 0);
        due("nothing rejected", x.count(0, 3), 0);
        dueNumber("the length stays", x.clock(0, 1), 0x1p-28);
        dueNumber("the state stays", x.state(0, 0), 3.0);
        dueNumber("the time stays", x.clock(0, 0), 0.0);
        due("to is refused, too", x.to(0, 1, 0, 5), SMALL);
        x.length(0, -1, 30);
        due("a step the other way", x.step(0), 0);
        dueNumber("grows", x.clock(0, 1), -0x1p-28);
        twentySteps();
    }

    /** x' jumps at a time that only steps shorter than it do not reach. */
    private static void twentySteps() {
        long[] jumps = {1 << 4, 1 << 2};
        int[] answers = {19, SMALL};
        for (int i = 0; i < jumps.length; i++) {
            MotionStepper x = new MotionStepper();
            x.signal(0);
            x.point(0, 0, 0, 0);
            x.point(0, jumps[i], 1L << 62, 30);
            x.law(1, 0);
            x.node(0, 1, 0, 0, 0);
            x.node(0, 12, 0, 0, 0);
            x.side(0, 0, 1);
            x.run(0, 0, 0);
            x.method(0, 4);
            x.length(0, 1024, 0);
            x.tolerance(0, 1, 0, 30);
            due("the 20th step is short enough, or the 21st", x.step(0), answers[i]);
            dueNumber("its length", x.clock(0, 1), i == 0 ? 0x1p-28 : 1024);
            due("rejected", x.count(0, 3), i == 0 ? 19 : 0);
        }
    }

    // ---- promise 16

    private static void to() {
        MotionStepper x = Desks.decay();
        due("to of no run", x.to(1, 1, 0, 1), NUMBER);
        due("to of no run", x.to(-1, 1, 0, 1), NUMBER);
        due("to, k 31", x.to(0, 1, 31, 1), NUMBER);
        due("to, k -1", x.to(0, 1, -1, 1), NUMBER);
        due("to, most 0", x.to(0, 1, 0, 0), NUMBER);
        due("to, most 201", x.to(0, 1, 0, 201), NUMBER);
        due("to behind", x.to(0, -1, 0, 1), STATE);
        due("to where it is", x.to(0, 0, 5, 1), 0);
        due("to", x.to(0, 1, 0, 200), 8);
        dueNumber("time", x.clock(0, 0), 1.0);
        due("at most", x.to(0, 9, 0, 3), 3);
        dueNumber("time", x.clock(0, 0), 1.375);
        due("taken", x.count(0, 2), 11);
        x.length(0, -1, 2);
        due("to ahead, back in time", x.to(0, 2, 0, 3), STATE);
        due("to, back in time", x.to(0, 1, 0, 3), 2);
        dueNumber("time", x.clock(0, 0), 1.0);
        dueNumber("h of the last one", x.clock(0, 3), -0.125);
        MotionStepper y = Desks.climb();
        y.event(0, 3, 1, 1, 0);
        y.length(0, 3, 2);
        due("to an end", y.to(0, 9, 0, 200), 2);
        dueNumber("time of the end", y.clock(0, 0), 0.75 + 357913942 * 0x1p-30 * 0.75);
        due("to of an ended one", y.to(0, 9, 0, 200), STATE);
        due("to of an ended one, where it is", y.to(0, 1, 0, 200), STATE);
        due("to of an ended one, most 0", y.to(0, 1, 0, 0), NUMBER);
    }

    private static void toIsCut() {
        MotionStepper x = Desks.climb();
        x.length(0, 3, 3);
        due("steps", x.to(0, 1, 0, 200), 3);
        dueNumber("h", x.clock(0, 3), 0.25);
        dueNumber("length", x.clock(0, 1), 0.375);
        dueNumber("state", x.state(0, 0), 1.0);
        due("a cut one alone", x.to(0, 9, 3, 200), 1);
        dueNumber("time", x.clock(0, 0), 1.125);
        cutRounds();
    }

    /** An EVENT brings a RUN to a time t so fine that t + (T - t) is not T. */
    private static void cutRounds() {
        MotionStepper x = new MotionStepper();
        x.law(1, 0);
        x.constant(0, 1, 0);
        x.node(0, 0, 0, 0, 0);
        x.constant(0, 1, 30);
        x.node(0, 3, 1, 2, 0);
        x.side(0, 0, 0);
        x.run(0, -7969177, 30);
        x.length(0, 5, 30);
        x.event(0, 3, 1, 3, 0);
        due("step", x.step(0), 0);
        double t = -7969177 * 0x1p-30 + 214748365 * 0x1p-30 * (5 * 0x1p-30);
        dueNumber("a fine time", x.clock(0, 0), t);
        double target = 1258291 * 0x1p-30;
        due("t + (T - t) is not T", t + (target - t) != target ? 1 : 0, 1);
        x.length(0, 1, 0);
        due("to", x.to(0, 1258291, 30, 9), 1);
        dueNumber("T", x.clock(0, 0), target);
        dueNumber("h", x.clock(0, 3), target - t);
        due("there", x.to(0, 1258291, 30, 9), 0);
        eventAtCut(1258291, t);
        eventAtCut(1258293, t);
    }

    /** An EVENT that comes at the very end of a CUT step goes by h; the time is T. */
    private static void eventAtCut(long n, double t) {
        MotionStepper x = new MotionStepper();
        x.law(1, 0);
        x.constant(0, 1, 0);
        x.node(0, 0, 0, 0, 0);
        x.constant(0, 1, 30);
        x.node(0, 3, 1, 2, 0);
        x.node(0, 1, 0, 0, 0);
        x.constant(0, n, 30);
        x.node(0, 3, 4, 5, 0);
        x.side(0, 0, 0);
        x.run(0, -7969177, 30);
        x.length(0, 5, 30);
        x.event(0, 3, 1, 3, 0);
        x.step(0);
        x.length(0, 1, 0);
        x.event(0, 6, 1, 3, 0);
        double target = n * 0x1p-30;
        double end = t + (target - t);
        due("to", x.to(0, n, 30, 1), 1);
        dueNumber("T", x.clock(0, 0), target);
        due("it comes at t + h", x.count(0, 7), end >= target ? 2 : 1);
        if (end >= target) {
            dueNumber("its time", x.fired(0, 1, 1), end);
        }
    }

    private static void toWithControl() {
        MotionStepper x = Desks.climb();
        x.method(0, 4);
        x.length(0, 1, 0);
        due("a cut PAIR", x.to(0, 1, 1, 9), 1);
        dueNumber("the length is as ahead", x.clock(0, 1), 1.0);
        due("a PAIR of the very length", x.to(0, 3, 1, 9), 1);
        dueNumber("the length is as ahead", x.clock(0, 1), 1.0);
        due("PAIRS", x.to(0, 20, 0, 9), 3);
        dueNumber("the length has grown", x.clock(0, 1), 16.0);
        dueNumber("T", x.clock(0, 0), 20.0);
        // A cut one that is REJECTED is not cut any more, and the length is that of the new one.
        MotionStepper y = Desks.decay();
        y.method(0, 4);
        y.tolerance(0, 1, 0, 10);
        y.length(0, 16, 0);
        due("to", y.to(0, 8, 0, 1), 1);
        due("rejected", y.count(0, 3), 3);
        dueNumber("length", y.clock(0, 1), 0.25);
        dueNumber("time", y.clock(0, 0), 0.25);
        due("taken", y.count(0, 2), 1);
    }

    private static void toIsUndone() {
        // x' = 1 / (2 - t): wild at time 2.
        MotionStepper x = new MotionStepper();
        x.law(1, 0);
        x.constant(0, 2, 0);
        x.node(0, 1, 0, 0, 0);
        x.node(0, 3, 0, 1, 0);
        x.constant(0, 1, 0);
        x.node(0, 5, 3, 2, 0);
        x.node(0, 3, 1, 3, 0);
        x.side(0, 0, 4);
        x.run(0, 0, 0);
        x.method(0, 3);
        x.length(0, 1, 1);
        x.event(0, 5, 1, 0, 0);
        x.keep(0, 0);
        due("to a pole", x.to(0, 3, 0, 9), WILD);
        due("as ahead", x.unlike(0, 0), 0);
        due("none taken", x.count(0, 2), 0);
        due("none fired", x.count(0, 7), 0);
        due("no step", x.stage(0, 1, 0), NONE);
        due("not so far", x.to(0, 3, 0, 3), 3);
        due("fired", x.count(0, 7), 1);
        long k1 = x.stage(0, 1, 0);
        due("to a pole", x.to(0, 3, 0, 9), WILD);
        due("the latest step stays", x.stage(0, 1, 0), k1);
        due("the counts stay", x.count(0, 2), 3);
    }

    // ---- promises 17 to 22

    private static void state() {
        MotionStepper x = Desks.swing(0);
        dueNumber("state 0", x.state(0, 0), 3.0);
        dueNumber("state 1", x.state(0, 1), 2.0);
        due("state 2", x.state(0, 2), NONE);
        due("state -1", x.state(0, -1), NONE);
        due("state of no run", x.state(1, 0), NONE);
        due("state of no run", x.state(-1, 0), NONE);
        bits();
    }

    /** Bits of numbers of all sizes, down to the least ones: x becomes x * 2^-30 by each step. */
    private static void bits() {
        MotionStepper x = new MotionStepper();
        x.law(2, 0);
        x.node(0, 0, 0, 0, 0);
        x.node(0, 0, 1, 0, 0);
        x.constant(0, (1 << 30) - 1, 30);
        x.node(0, 6, 2, 0, 0);
        x.node(0, 4, 0, 3, 0);
        x.constant(0, (1 << 26) - 1, 0);
        x.node(0, 4, 1, 5, 0);
        x.side(0, 0, 4);
        x.side(0, 1, 6);
        x.run(0, 0, 0);
        x.length(0, 1, 0);
        x.set(0, 0, -MOST / 3, 0);
        x.set(0, 1, MOST / 3, 30);
        double small = (double) (-MOST / 3);
        double large = (double) (MOST / 3) / (1 << 30);
        double c = ((1 << 30) - 1) * 0x1p-30;
        for (int i = 0; i < 36; i++) {
            due("step", x.step(0), 0);
            small = small + small * -c;
            large = large + large * ((1 << 26) - 1);
            dueNumber("small", x.state(0, 0), small);
            dueNumber("large", x.state(0, 1), large);
        }
        due("it is one of the least", small > -0x1p-1010 && small != 0 ? 1 : 0, 1);
        for (int i = 0; i < 4; i++) {
            x.set(0, 1, 1, 0);
            due("step", x.step(0), 0);
            small = small + small * -c;
            dueNumber("least", x.state(0, 0), small);
        }
    }

    private static void clock() {
        MotionStepper x = Desks.decay();
        due("clock of no run", x.clock(1, 0), NONE);
        due("clock of no run", x.clock(-1, 0), NONE);
        due("clock 4", x.clock(0, 4), NONE);
        due("clock -1", x.clock(0, -1), NONE);
        x.method(0, 4);
        x.tolerance(0, 1, 0, 0);
        x.length(0, 1, 0);
        x.step(0);
        dueNumber("time", x.clock(0, 0), 1.0);
        dueNumber("h", x.clock(0, 3), 1.0);
        dueNumber("error", x.clock(0, 2), Math.abs(Double.longBitsToDouble(x.stage(0, 5, 0))));
        x.method(0, 0);
        x.length(0, 1, 1);
        dueNumber("the length is new", x.clock(0, 1), 0.5);
        dueNumber("the step isn't", x.clock(0, 3), 1.0);
        x.step(0);
        dueNumber("h", x.clock(0, 3), 0.5);
        dueNumber("error of another method", x.clock(0, 2), 0.0);
    }

    private static void count() {
        MotionStepper x = Desks.decay();
        due("count of no run", x.count(1, 0), NUMBER);
        due("count of no run", x.count(-1, 0), NUMBER);
        due("count 8", x.count(0, 8), NUMBER);
        due("count -1", x.count(0, -1), NUMBER);
        x.law(1, 0);
        x.constant(1, -1, 0);
        x.node(1, 0, 0, 0, 0);
        x.side(1, 0, 0);
        x.run(1, 0, 0);
        x.method(1, 2);
        x.set(1, 0, 1, 0);
        x.length(1, 2, 0);
        x.event(1, 1, 0, 0, 0);
        x.event(1, 1, -1, 1, 0);
        x.step(1);
        int[] want = {1, 2, 1, 0, 0, 1, 2, 2};
        for (int what = 0; what < want.length; what++) {
            due("count " + what, x.count(1, what), want[what]);
        }
    }

    private static void stage() {
        MotionStepper x = Desks.swing(0);
        due("no step yet", x.stage(0, 1, 0), NONE);
        x.method(0, 4);
        x.tolerance(0, 1, 0, 0);
        x.step(0);
        due("stage of no run", x.stage(1, 1, 0), NONE);
        due("stage of no variable", x.stage(0, 1, 2), NONE);
        due("stage of no variable", x.stage(0, 1, -1), NONE);
        due("stage 0", x.stage(0, 0, 0), NONE);
        due("stage 6", x.stage(0, 6, 0), NONE);
        due("stage MIN", x.stage(0, Integer.MIN_VALUE, 0), NONE);
        x.method(0, 0);
        due("by that step's method", x.stage(0, 4, 0) != NONE && x.stage(0, 5, 1) != NONE ? 1 : 0, 1);
        x.step(0);
        x.method(0, 4);
        due("by that step's method", x.stage(0, 2, 0), NONE);
        due("by that step's method", x.stage(0, 5, 0), NONE);
    }

    private static void value() {
        MotionStepper x = Desks.climb();
        due("value of no run", x.value(1, 0), NONE);
        due("value of no node", x.value(0, 4), NONE);
        due("value of no node", x.value(0, -1), NONE);
        x.step(0);
        x.set(0, 0, 5, 0);
        dueNumber("time", x.value(0, 0), 1.0);
        dueNumber("state", x.value(0, 1), 5.0);
        dueNumber("difference", x.value(0, 3), 4.0);
        x.node(0, 5, 3, 3, 0);
        dueNumber("a node behind the run", x.value(0, 4), 1.0);
    }

    private static void between() {
        MotionStepper x = Desks.swing(1);
        due("no step yet", x.between(0, 0, 0, 0), NONE);
        x.method(0, 3);
        x.step(0);
        double h = 0.375;
        double[] x0 = {3, 2};
        double[] x1 = {Double.longBitsToDouble(x.state(0, 0)), Double.longBitsToDouble(x.state(0, 1))};
        double[] f0 = f(1, x0);
        double[] f1 = f(1 + h, x1);
        due("between of no run", x.between(1, 0, 0, 0), NONE);
        due("between of no variable", x.between(0, 2, 0, 0), NONE);
        due("between, k 31", x.between(0, 0, 0, 31), NONE);
        due("between, k -1", x.between(0, 0, 0, -1), NONE);
        due("s below 0", x.between(0, 0, -1, 30), NONE);
        due("s above 1", x.between(0, 0, (1 << 30) + 1, 30), NONE);
        x.set(0, 0, 99, 0);
        for (int i = 0; i < 2; i++) {
            dueNumber("s 0", x.between(0, i, 0, 7), x0[i]);
            dueNumber("s 1", x.between(0, i, 8, 3), x1[i]);
            for (int n = 1; n < 16; n++) {
                double s = n / 16.0, u = 1 - s;
                double want = (u * u) * ((1 + 2 * s) * x0[i] + (s * h) * f0[i])
                        + (s * s) * ((1 + 2 * u) * x1[i] - (u * h) * f1[i]);
                dueNumber("s " + s, x.between(0, i, n, 4), i == 0 ? (float) want : want);
            }
        }
    }

    /** A POINT that comes behind a step changes f, but not what was TAKEN. */
    private static void betweenAsTaken() {
        MotionStepper x = new MotionStepper();
        x.signal(1);
        x.point(0, 0, 1, 0);
        x.law(1, 0);
        x.node(0, 1, 0, 0, 0);
        x.node(0, 12, 0, 0, 0);
        x.side(0, 0, 1);
        x.run(0, 0, 0);
        x.length(0, 1, 0);
        x.step(0);
        x.keep(0, 0);
        dueNumber("middle", x.between(0, 0, 1, 1), 0.5);
        x.point(0, 1, 99, 0);
        dueNumber("f at 1 is another now", x.value(0, 1), 99.0);
        dueNumber("middle", x.between(0, 0, 1, 1), 0.5);
        x.back(0, 0);
        dueNumber("middle", x.between(0, 0, 1, 1), 0.5);
    }

    // ---- EVENTS, promises 14, 15 and 23

    private static void events() {
        // x goes from 0 to 2 in steps of 0.75: x - 1 rises in the second one.
        int[] directions = {-1, 0, 1};
        for (int direction : directions) {
            MotionStepper x = Desks.climb();
            x.length(0, 3, 2);
            x.event(0, 3, direction, 0, 0);
            x.to(0, 2, 0, 9);
            due("a rise by " + direction, x.count(0, 7), direction == -1 ? 0 : 1);
            MotionStepper y = Desks.climb();
            y.set(0, 0, 2, 0);
            y.length(0, -3, 2);
            y.event(0, 3, direction, 0, 0);
            y.to(0, -2, 0, 9);
            due("a fall by " + direction, y.count(0, 7), direction == 1 ? 0 : 1);
        }
        MotionStepper x = Desks.climb();
        x.event(0, 3, 0, 0, 0);
        x.step(0);
        due("a rise to 0", x.count(0, 7), 1);
        dueNumber("at the end", x.fired(0, 0, 1), 1.0);
        x.step(0);
        due("no rise from 0", x.count(0, 7), 1);
        x.length(0, -1, 0);
        x.step(0);
        due("a fall to 0", x.count(0, 7), 2);
        x.step(0);
        due("no fall from 0", x.count(0, 7), 2);
        high();
    }

    /** 30 halves of a cubic that is a line here: high is the least of 2^-30 at or behind 1/3. */
    private static void high() {
        MotionStepper x = Desks.climb();
        x.constant(0, 1, 2);
        x.node(0, 3, 1, 4, 0);
        x.constant(0, 3, 0);
        x.node(0, 5, 2, 6, 0);
        x.node(0, 3, 0, 7, 0);
        x.event(0, 8, 1, 3, 0);
        x.event(0, 5, 1, 0, 0);
        x.step(0);
        due("both", x.count(0, 7), 2);
        due("the earlier one first", x.fired(0, 0, 0), 1);
        dueNumber("at a quarter", x.fired(0, 0, 1), 0.25);
        due("the later one", x.fired(0, 1, 0), 0);
        double high = Math.ceil((1L << 30) / 3.0) / (1L << 30);
        dueNumber("at a third", x.fired(0, 1, 1), high);
        dueNumber("the time is its", x.clock(0, 0), high);
        dueNumber("h is the whole one's", x.clock(0, 3), 1.0);
        dueNumber("the latest step is the whole one", x.between(0, 0, 1, 0), 1.0);
        due("the state is between's", x.state(0, 0), x.between(0, 0, (long) (high * (1L << 30)), 30));
    }

    private static void orderOfEvents() {
        // Of equals by number; those behind the first one that acts are not FIRED.
        MotionStepper x = Desks.climb();
        x.length(0, 4, 0);
        x.event(0, 3, 1, 0, 0);
        x.event(0, 3, 0, 3, 0);
        x.event(0, 3, 1, 1, 0);
        x.event(0, 3, 1, 0, 0);
        x.step(0);
        due("fired", x.count(0, 7), 2);
        due("first", x.fired(0, 0, 0), 0);
        due("second", x.fired(0, 1, 0), 1);
        due("not ended", x.count(0, 5), 0);
        dueNumber("time", x.clock(0, 0), 1.0);
        dueNumber("state", x.state(0, 0), 1.0);
        // A later one that acts does not keep an earlier one from it.
        MotionStepper y = Desks.climb();
        y.length(0, 4, 0);
        y.constant(0, 2, 0);
        y.node(0, 3, 0, 4, 0);
        y.event(0, 5, 1, 1, 0);
        y.event(0, 3, 1, 3, 0);
        y.step(0);
        due("the earlier one", y.fired(0, 0, 0), 1);
        due("alone", y.count(0, 7), 1);
        due("not ended", y.count(0, 5), 0);
        y.step(0);
        due("the later one in the next step", y.fired(0, 1, 0), 0);
        due("ended", y.count(0, 5), 1);
    }

    private static void actions() {
        MotionStepper x = Desks.climb();
        x.length(0, 4, 0);
        x.event(0, 3, 1, 2, 7);
        x.step(0);
        dueNumber("negated, variable 0 for none such", x.state(0, 0), -1.0);
        dueNumber("time", x.clock(0, 0), 1.0);
        due("not ended", x.count(0, 5), 0);
        // Variable 1 of two, at the very end of a step: the state isn't between's then.
        MotionStepper y = Desks.swing(0);
        y.constant(0, 11, 3);
        y.node(0, 3, 2, 4, 0);
        y.event(0, 5, 1, 2, 1);
        y.step(0);
        dueNumber("0 stays", y.state(0, 0), 3.0 + 0.375 * 2.0);
        dueNumber("1 is negated", y.state(0, 1), -(2.0 + 0.375 * -2.0));
        dueNumber("at the end", y.clock(0, 0), 1.375);
        // A 0.0 becomes -0.0.
        MotionStepper z = Desks.climb();
        z.set(0, 0, -1, 0);
        z.event(0, 1, 1, 2, -1);
        z.step(0);
        dueNumber("-0.0", z.state(0, 0), -0.0);
        // With to(): an EVENT that brings the time back isn't followed by T, one at the end is.
        MotionStepper w = Desks.climb();
        w.length(0, 4, 0);
        w.event(0, 3, 1, 3, 0);
        due("one", w.to(0, 2, 0, 1), 1);
        dueNumber("brought back", w.clock(0, 0), 1.0);
        due("and on", w.to(0, 2, 0, 9), 1);
        dueNumber("T", w.clock(0, 0), 2.0);
    }

    /** BETWEEN of large states is an infinity or none, and may become the state. */
    private static void lostStates() {
        MotionStepper x = new MotionStepper();
        x.law(2, 0);
        x.constant(0, 1L << 62, 0);
        x.node(0, 11, 0, 9, 0);
        x.node(0, 11, 0, 7, 0);
        x.node(0, 4, 1, 2, 0);
        x.constant(0, 1L << 20, 0);
        x.node(0, 4, 3, 4, 0);
        x.node(0, 1, 0, 0, 0);
        x.constant(0, 1, 0);
        x.node(0, 3, 6, 7, 0);
        x.node(0, 3, 5, 5, 0);
        x.node(0, 5, 9, 9, 0);
        x.node(0, 10, 8, 5, 9);
        x.constant(0, 1536, 0);
        x.node(0, 3, 6, 12, 0);
        x.node(0, 10, 13, 9, 10);
        x.node(0, 0, 1, 0, 0);
        x.side(0, 0, 11);
        x.side(0, 1, 14);
        x.run(0, 0, 0);
        x.length(0, 1024, 0);
        due("to 2^1022", x.step(0), 0);
        dueNumber("2^1022", x.state(0, 0), 0x1p1022);
        x.event(0, 13, 1, 2, 0);
        due("over a time", x.step(0), 0);
        due("fired", x.count(0, 7), 1);
        dueNumber("at 1536", x.clock(0, 0), 1536.0);
        due("x is 2^1022 to the end", x.between(0, 0, 1, 0), Double.doubleToLongBits(0x1p1022));
        dueNumber("x in the middle, negated", x.state(0, 0), -0x1p1022);
        due("none, as f1 is", x.state(0, 1), NONE);
        due("none, as f1 is", x.between(0, 1, 1, 1), NONE);
        dueNumber("at 0 it is a number", x.between(0, 1, 0, 0), 0.0);
        dueNumber("at 1 it is a number", x.between(0, 1, 1, 0), 0.0);
        due("the value of its node", x.value(0, 15), NONE);
        x.keep(0, 1);
        due("none is like none", x.unlike(0, 1), 0);
        due("wild from there", x.step(0), WILD);
        due("set", x.set(0, 1, 0, 0), 1);
        due("one is none", x.unlike(0, 1), 1);
        infiniteState();
    }

    private static void infiniteState() {
        MotionStepper x = new MotionStepper();
        x.law(1, 0);
        x.constant(0, 1L << 62, 0);
        x.node(0, 11, 0, 9, 0);
        x.node(0, 11, 0, 7, 0);
        x.node(0, 4, 1, 2, 0);
        x.constant(0, 3L << 20, 0);
        x.node(0, 4, 3, 4, 0);
        x.node(0, 1, 0, 0, 0);
        x.constant(0, 1, 0);
        x.node(0, 3, 6, 7, 0);
        x.constant(0, 0, 0);
        x.node(0, 10, 8, 5, 9);
        x.constant(0, 1536, 0);
        x.node(0, 3, 6, 11, 0);
        x.side(0, 0, 10);
        x.run(0, 0, 0);
        x.length(0, 1024, 0);
        x.step(0);
        dueNumber("3 * 2^1022", x.state(0, 0), 0x1.8p1023);
        x.event(0, 12, 1, 2, 0);
        x.step(0);
        dueNumber("too large between, negated", x.state(0, 0), -INFINITY);
        dueNumber("too large between", x.between(0, 0, 1, 1), INFINITY);
        due("no halves", x.halves(0, 0), NONE);
        due("wild", x.step(0), WILD);
    }

    private static void fired() {
        // x' = 1, and x is brought to -1 at every 1: an event in each step of 2.
        MotionStepper x = Desks.climb();
        x.length(0, 2, 0);
        x.event(0, 3, 1, 2, 0);
        due("none yet", x.fired(0, 0, 0), NONE);
        for (int j = 0; j < 70; j++) {
            x.step(0);
        }
        due("70 fired", x.count(0, 7), 70);
        dueNumber("the first one", x.fired(0, 0, 1), 1.0);
        dueNumber("the second one", x.fired(0, 1, 1), 3.0);
        dueNumber("the 64th one", x.fired(0, 63, 1), 127.0);
        due("its number", x.fired(0, 63, 0), 0);
        due("the 65th one", x.fired(0, 64, 0), NONE);
        due("the 65th one's time", x.fired(0, 64, 1), NONE);
        due("-1", x.fired(0, -1, 0), NONE);
        due("what 2", x.fired(0, 0, 2), NONE);
        due("what -1", x.fired(0, 0, -1), NONE);
        due("no run", x.fired(1, 0, 0), NONE);
    }

    // ---- promises 24 to 27

    private static void halves() {
        MotionStepper x = Desks.swing(0);
        x.method(0, 1);
        x.keep(0, 0);
        double h = 0.375;
        double[] whole = middle(1, new double[] {3, 2}, h);
        double[] half = middle(1 + h / 2, middle(1, new double[] {3, 2}, h / 2), h / 2);
        for (int i = 0; i < 2; i++) {
            dueNumber("halves " + i, x.halves(0, i), half[i] - whole[i]);
        }
        due("the run stays", x.unlike(0, 0), 0);
        due("no step", x.stage(0, 1, 0), NONE);
        due("halves of no run", x.halves(1, 0), NONE);
        due("halves of no variable", x.halves(0, 2), NONE);
        due("halves of no variable", x.halves(0, -1), NONE);
        MotionStepper y = Desks.climb();
        y.event(0, 3, 1, 1, 0);
        dueNumber("without events", y.halves(0, 0), 0.0);
        y.step(0);
        due("ended", y.halves(0, 0), NONE);
        // Without control: a PAIR that would be rejected.
        MotionStepper z = Desks.decay();
        z.method(0, 4);
        z.length(0, 8, 0);
        due("a long PAIR", z.halves(0, 0) != NONE ? 1 : 0, 1);
        // x' = 1 / (t - 1): the second half begins at the pole, or the whole one does not end.
        MotionStepper w = new MotionStepper();
        w.law(1, 0);
        w.node(0, 1, 0, 0, 0);
        w.constant(0, 1, 0);
        w.node(0, 3, 0, 1, 0);
        w.node(0, 5, 1, 2, 0);
        w.side(0, 0, 3);
        w.run(0, 0, 0);
        w.length(0, 1, 0);
        due("three tame ones", w.halves(0, 0) != NONE ? 1 : 0, 1);
        w.length(0, 2, 0);
        due("the second half is wild", w.halves(0, 0), NONE);
        w.method(0, 2);
        w.length(0, 1, 0);
        due("the whole one is wild", w.halves(0, 0), NONE);
    }

    /** MIDDLE, of Desks.swing(). */
    private static double[] middle(double t, double[] x, double h) {
        double g = h / 2;
        return plus(x, h, f(t + g, plus(x, g, f(t, x))));
    }

    private static void keepAndBack() {
        MotionStepper x = Desks.climb();
        due("keep of no run", x.keep(1, 0), NUMBER);
        due("keep of no run", x.keep(-1, 0), NUMBER);
        due("place 4", x.keep(0, 4), NUMBER);
        due("place -1", x.keep(0, -1), NUMBER);
        due("back of no run", x.back(1, 0), NUMBER);
        due("back, place 4", x.back(0, 4), NUMBER);
        due("back, place -1", x.back(0, -1), NUMBER);
        due("nothing kept", x.back(0, 3), STATE);
        x.event(0, 3, 1, 1, 0);
        x.length(0, 3, 2);
        x.method(0, 5);
        x.tolerance(0, 7, 1, 3);
        x.step(0);
        due("keep", x.keep(0, 3), 1);
        long middle = x.between(0, 0, 1, 1);
        x.event(0, 3, 1, 1, 0);
        x.step(0);
        due("ended", x.count(0, 5), 1);
        due("back", x.back(0, 3), 1);
        int[] want = {0, 5, 1, 0, 0, 0, 1, 0};
        for (int what = 0; what < want.length; what++) {
            due("count " + what, x.count(0, what), want[what]);
        }
        dueNumber("time", x.clock(0, 0), 0.75);
        dueNumber("state", x.state(0, 0), 0.75);
        due("between", x.between(0, 0, 1, 1), middle);
        due("fired", x.fired(0, 0, 0), NONE);
        x.step(0);
        due("its event is there", x.count(0, 7), 1);
        due("ended", x.count(0, 5), 1);
        due("it stays kept", x.back(0, 3), 1);
        dueNumber("time", x.clock(0, 0), 0.75);
        backToAnotherLaw();
        backInAnotherRun();
    }

    /** All that a RUN is comes back in another RUN, too. */
    private static void backInAnotherRun() {
        MotionStepper x = Desks.swing(0);
        x.constant(0, 4, 0);
        x.node(0, 3, 0, 4, 0);
        x.run(0, 0, 0);
        x.method(0, 4);
        x.length(0, 8, 0);
        x.tolerance(0, 3, 1, 7);
        x.event(0, 1, 0, 2, 1);
        x.event(0, 5, -1, 0, 0);
        x.event(0, 5, 1, 3, 1);
        due("steps", x.to(0, 9, 0, 30) > 3 ? 1 : 0, 1);
        due("some were rejected", x.count(0, 3) > 0 ? 1 : 0, 1);
        due("some fired", x.count(0, 7) > 1 ? 1 : 0, 1);
        x.keep(0, 2);
        x.back(1, 2);
        for (int round = 0; round < 2; round++) {
            for (int what = 0; what < 8; what++) {
                due("count " + what, x.count(1, what), x.count(0, what));
            }
            for (int what = 0; what < 4; what++) {
                due("clock " + what, x.clock(1, what), x.clock(0, what));
            }
            for (int j = 0; j < 10; j++) {
                due("fired " + j, x.fired(1, j, 0), x.fired(0, j, 0));
                due("fired at " + j, x.fired(1, j, 1), x.fired(0, j, 1));
                due("stage " + j, x.stage(1, j, j % 2), x.stage(0, j, j % 2));
                due("between " + j, x.between(1, j % 2, j, 3), x.between(0, j % 2, j, 3));
            }
            due("steps", x.to(1, 30, 0, 30), x.to(0, 30, 0, 30));
        }
        due("more fired", x.count(1, 7) > 4 ? 1 : 0, 1);
    }

    private static void backToAnotherLaw() {
        MotionStepper x = Desks.swing(0);
        x.law(1, 0);
        x.constant(1, 1, 0);
        x.side(1, 0, 0);
        x.run(1, 5, 0);
        x.method(0, 6);
        x.step(0);
        x.keep(0, 0);
        due("unlike in all", x.unlike(1, 0), 4);
        due("a run of another law comes back", x.back(1, 0), 1);
        due("its law", x.count(1, 0), 0);
        due("its method", x.count(1, 1), 6);
        due("its variable 1", x.state(1, 1), x.state(0, 1));
        due("its stage", x.stage(1, 3, 1), x.stage(0, 3, 1));
        due("its step", x.step(1), 0);
        x.step(0);
        due("the same step", x.state(1, 0), x.state(0, 0));
        due("what is kept stays", x.unlike(1, 0), 3);
        due("two runs are two", x.set(1, 0, 9, 0), 1);
        due("two runs are two", x.state(0, 0) != x.state(1, 0) ? 1 : 0, 1);
    }

    private static void unlike() {
        MotionStepper x = Desks.swing(0);
        due("unlike of no run", x.unlike(1, 0), NUMBER);
        due("unlike, place 4", x.unlike(0, 4), NUMBER);
        due("unlike, place -1", x.unlike(0, -1), NUMBER);
        due("nothing kept", x.unlike(0, 0), STATE);
        x.keep(0, 0);
        due("alike", x.unlike(0, 0), 0);
        x.method(0, 2);
        x.tolerance(0, 1, 1, 0);
        due("methods and tolerances count nothing", x.unlike(0, 0), 0);
        x.length(0, 1, 0);
        due("length", x.unlike(0, 0), 1);
        x.set(0, 0, 7, 0);
        due("a state", x.unlike(0, 0), 2);
        x.step(0);
        due("all", x.unlike(0, 0), 4);
        // 0.0 and -0.0 are equal by value, and unlike by bits.
        MotionStepper y = Desks.climb();
        y.set(0, 0, -1, 0);
        y.event(0, 1, 1, 2, 0);
        y.step(0);
        y.keep(0, 0);
        y.set(0, 0, 0, 0);
        due("0.0 and -0.0", y.unlike(0, 0), 1);
    }
}
