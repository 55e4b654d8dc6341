/** Terms 1 and 2: NUMBERS, the values of NODES, SIGNALS, and what is put. */
public final class EdgesOfNumbersTest {
    private static final int NUMBER = MotionStepper.NUMBER;
    private static final int STATE = MotionStepper.STATE;
    private static final int FULL = MotionStepper.FULL;
    private static final int WILD = MotionStepper.WILD;
    private static final long NONE = MotionStepper.NONE;
    private static final double INFINITY = Double.POSITIVE_INFINITY;
    private static final double LEAST = Double.MIN_VALUE;
    private static final double GREATEST = Double.MAX_VALUE;
    private static final double NAN = Double.NaN;

    public static void main(String[] args) {
        Edges.sentence("n and k tell the NUMBER n / 2^k: the nearest double of the long n, divided by 2 to "
            + "the power of k (0 to 30).", EdgesOfNumbersTest::nearestDouble);
        Edges.sentence("What is told back as a NUMBER is its bits, 0x7FF8000000000000 for one that is "
            + "not a number.", EdgesOfNumbersTest::toldBits);
        Edges.sentence("A NUMBER is FINITE if it is a number and no infinity.",
            EdgesOfNumbersTest::finite);
        Edges.sentence("NUMBERS are doubles; each sum, difference, product and quotient is the nearest one, "
            + "as the language has it.", EdgesOfNumbersTest::nearestResults);
        Edges.sentence("A LAW has n VARIABLES 0 to n - 1 (n is 1 to 6), each NARROW or not",
            EdgesOfNumbersTest::variables);
        Edges.sentence("NODES 0 to 47, as they come", EdgesOfNumbersTest::nodes);
        Edges.sentence("and for each VARIABLE a SIDE, one of its NODES (none at first); it is READY if all "
            + "have one.", EdgesOfNumbersTest::ready);
        Edges.sentence("SIGNALS are numbered 0 to 7; each has at most 16 POINTS, 0 to 15, of a time and "
            + "a value, times rising, and is a STEP or a LINE.", EdgesOfNumbersTest::points);
        Edges.sentence("The value of a NODE, for states x0, x1, .. and a time t, by its kind: STATE i: xi. "
            + "TIME: t. CONSTANT: its NUMBER.", EdgesOfNumbersTest::leaves);
        Edges.sentence("SUM a + b, DIFFERENCE a - b, PRODUCT a * b, QUOTIENT a / b", () -> {
            operations();
            quotient();
        });
        Edges.sentence("(a, b, c being the values of NODES that came earlier).",
            EdgesOfNumbersTest::earlierNodes);
        Edges.sentence("NEGATED: -a.", EdgesOfNumbersTest::negated);
        Edges.sentence("SIZE: a without its sign.", EdgesOfNumbersTest::size);
        Edges.sentence("LEAST, GREATEST: of a and b (-0.0 is less than 0.0); not a number, if one of "
            + "them is none.", EdgesOfNumbersTest::leastAndGreatest);
        Edges.sentence("CHOICE: b if a is below 0, else c (also if a is not a number).",
            EdgesOfNumbersTest::choice);
        Edges.sentence("POWER m: 1.0 multiplied m times by a, from the left.",
            EdgesOfNumbersTest::power);
        Edges.sentence("SIGNAL s at a: without POINTS 0.0", EdgesOfNumbersTest::signalWithoutPoints);
        Edges.sentence("not a number if a is none", EdgesOfNumbersTest::signalAtNone);
        Edges.sentence("else at or ahead of the first time its value, at or behind the last time its "
            + "value", EdgesOfNumbersTest::signalOutside);
        Edges.sentence("between, p being the last POINT whose time is a or less and q the next one: STEP: "
            + "p's value", EdgesOfNumbersTest::stepBetween);
        Edges.sentence("LINE: vp + (vq - vp) * ((a - tp) / (tq - tp)), with p's value where a is p's "
            + "time.", EdgesOfNumbersTest::lineBetween);
        Edges.sentence("TO PUT a NUMBER into a VARIABLE: if it is NARROW, the nearest float of it is "
            + "put.", EdgesOfNumbersTest::put);
        Edges.end();
    }

    /** The value of a NODE of the kind over the NUMBERS a, b and c. */
    private static long valueOf(int kind, double a, double b, double c) {
        LawMaker law = new LawMaker(new MotionStepper(), 1, 0);
        int q = law.node(kind, law.number(a), law.number(b), law.number(c));
        return law.side(0, q).desk.value(law.run(0, 0), q);
    }

    private static long powerOf(double a, int m) {
        LawMaker law = new LawMaker(new MotionStepper(), 1, 0);
        int q = law.node(11, law.number(a), m, 0);
        return law.side(0, q).desk.value(law.run(0, 0), q);
    }

    private static void dueKind(int kind, double a, double b, double want) {
        Edges.dueNumber("kind " + kind + " of " + a + ", " + b, valueOf(kind, a, b, 0), want);
    }

    private static void nearestDouble() {
        long[] longs = {0, 1, -1, (1L << 53) - 1, 1L << 53, (1L << 53) + 1, (1L << 53) + 2,
            (1L << 53) + 3, -(1L << 53) - 1, -(1L << 53) - 3, Long.MAX_VALUE - 512,
            Long.MAX_VALUE - 511, Long.MAX_VALUE, Long.MIN_VALUE, Long.MIN_VALUE + 512,
            Long.MIN_VALUE + 513};
        double[] doubles = {0, 1, -1, 0x1p53 - 1, 0x1p53, 0x1p53, 0x1p53 + 2, 0x1p53 + 4, -0x1p53,
            -0x1p53 - 4, 0x1p63 - 1024, 0x1p63, 0x1p63, -0x1p63, -0x1p63, -0x1p63 + 1024};
        int[] powers = {0, 1, 29, 30};
        for (int i = 0; i < longs.length; i++) {
            for (int k : powers) {
                LawMaker law = new LawMaker(new MotionStepper(), 1, 0);
                law.side(0, law.constant(longs[i], k));
                int r = law.run(longs[i], k);
                double want = doubles[i] / Math.pow(2, k);
                Edges.dueNumber("constant " + longs[i], law.desk.value(r, 0), want);
                Edges.dueNumber("time " + longs[i], law.desk.clock(r, 0), want);
                law.desk.set(r, 0, longs[i], k);
                Edges.dueNumber("state " + longs[i], law.desk.state(r, 0), want);
            }
        }
    }

    private static void toldBits() {
        double[] numbers = {0.0, -0.0, LEAST, -LEAST, 3 * LEAST, 0x1p-1022 - LEAST, 0x1p-1022,
            0x1p-1022 + LEAST, 1.0 - 0x1p-53, 1.0, 1.0 + 0x1p-52, 2.0 - 0x1p-52, 2.0, Math.PI, -Math.E,
            0x1p511, 0x1p512, 0x1p513, 0x1p-511, 0x1p-512, 0x1p-513, 0x1p1023, GREATEST, -GREATEST,
            INFINITY, -INFINITY};
        for (double a : numbers) {
            dueTold(a);
        }
        for (int power = -1074; power <= 1023; power++) {
            double a = Math.scalb(1.0, power);
            dueTold(a);
            dueTold(-Math.nextDown(a));
        }
        LawMaker law = new LawMaker(new MotionStepper(), 1, 0);
        law.side(0, law.number(NAN));
        Edges.due("not a number", law.desk.value(law.run(0, 0), law.desk.many(3) - 1),
            0x7FF8000000000000L);
    }

    private static void dueTold(double a) {
        LawMaker law = new LawMaker(new MotionStepper(), 1, 0);
        int q = law.number(a);
        law.side(0, q);
        Edges.due("bits of " + a, law.desk.value(law.run(0, 0), q), Double.doubleToRawLongBits(a));
    }

    private static void finite() {
        double[] numbers = {GREATEST, -GREATEST, INFINITY, -INFINITY, NAN};
        for (double a : numbers) {
            LawMaker law = new LawMaker(new MotionStepper(), 1, 0);
            law.side(0, law.number(a));
            int r = law.run(0, 0);
            boolean isFinite = Math.abs(a) == GREATEST;
            Edges.due("a step by " + a, law.desk.step(r), isFinite ? 0 : WILD);
        }
    }

    private static void nearestResults() {
        // Ties go to the even one; a half of an ulp and a little more does not.
        dueKind(2, 0x1p53, 1.0, 0x1p53);
        dueKind(2, 0x1p53 + 2, 1.0, 0x1p53 + 4);
        dueKind(2, 1.0, 0x1p-53, 1.0);
        dueKind(2, 1.0, 0x1p-53 + 0x1p-60, 1.0 + 0x1p-52);
        dueKind(3, 1.0, 0x1p-54, 1.0);
        dueKind(3, 1.0, 0x1p-53, 1.0 - 0x1p-53);
        dueKind(2, GREATEST, 0x1p969, GREATEST);
        dueKind(2, GREATEST, 0x1p970, INFINITY);
        dueKind(3, -GREATEST, 0x1p970, -INFINITY);
        dueKind(2, 0.0, -0.0, 0.0);
        dueKind(2, -0.0, -0.0, -0.0);
        dueKind(3, -0.0, 0.0, -0.0);
        dueKind(3, 5.0, 5.0, 0.0);
        dueKind(2, INFINITY, -INFINITY, NAN);
        dueKind(3, INFINITY, INFINITY, NAN);
        dueKind(4, 0x1p512, 0x1p512, INFINITY);
        dueKind(4, -0x1p511, 0x1p512, -0x1p1023);
        dueKind(4, LEAST, 0.5, 0.0);
        dueKind(4, LEAST, 0.75, LEAST);
        dueKind(4, -LEAST, 0.5, -0.0);
        dueKind(4, 0.0, -5.0, -0.0);
        dueKind(4, 0.0, INFINITY, NAN);
        dueKind(4, -INFINITY, 0.0, NAN);
        dueKind(4, 1 + 0x1p-52, 1 + 0x1p-52, 1 + 0x1p-51);
        // Each of the edges with each.
        double[] numbers = {0.0, -0.0, 1.0, -1.0, LEAST, -LEAST, GREATEST, -GREATEST, INFINITY, -INFINITY,
            NAN};
        for (double a : numbers) {
            for (double b : numbers) {
                dueKind(2, a, b, a + b);
                dueKind(3, a, b, a - b);
                dueKind(4, a, b, a * b);
                dueKind(5, a, b, a / b);
            }
        }
    }

    private static void quotient() {
        dueKind(5, 1.0, 0.0, INFINITY);
        dueKind(5, 1.0, -0.0, -INFINITY);
        dueKind(5, -1.0, 0.0, -INFINITY);
        dueKind(5, 0.0, 0.0, NAN);
        dueKind(5, 0.0, -0.0, NAN);
        dueKind(5, INFINITY, INFINITY, NAN);
        dueKind(5, INFINITY, 0.0, INFINITY);
        dueKind(5, 0.0, INFINITY, 0.0);
        dueKind(5, -1.0, INFINITY, -0.0);
        dueKind(5, 0.0, -3.0, -0.0);
        dueKind(5, 1.0, 3.0, 1.0 / 3.0);
        dueKind(5, GREATEST, 0.5, INFINITY);
        dueKind(5, LEAST, 2.0, 0.0);
        dueKind(5, NAN, 1.0, NAN);
        dueKind(5, 1.0, NAN, NAN);
    }

    private static void nodes() {
        LawMaker law = new LawMaker(new MotionStepper(), 1, 0);
        for (int q = 0; q < 48; q++) {
            int got = q % 2 == 0 ? law.desk.constant(0, q, 0) : law.desk.node(0, 1, 0, 0, 0);
            Edges.due("node " + q, got, q);
        }
        Edges.due("a node behind 47", law.desk.node(0, 1, 0, 0, 0), FULL);
        Edges.due("a constant behind 47", law.desk.constant(0, 1, 0), FULL);
        Edges.due("nodes", law.desk.many(3), 48);
        law.side(0, 47);
        int r = law.run(3, 0);
        Edges.dueNumber("node 46", law.desk.value(r, 46), 46.0);
        Edges.dueNumber("node 47", law.desk.value(r, 47), 3.0);
        Edges.due("node 48", law.desk.value(r, 48), NONE);
        // Node 47 is a side, and one of an event.
        law.desk.length(r, 3, 0);
        law.desk.event(r, 47, 1, 3, 0);
        Edges.due("a step by node 47", law.desk.step(r), 0);
        Edges.dueNumber("k1", law.desk.stage(r, 1, 0), 3.0);
        law.desk.length(r, -12, 0);
        law.desk.step(r);
        law.desk.length(r, 8, 0);
        law.desk.step(r);
        Edges.dueNumber("an event of node 47 at 0", law.desk.clock(r, 0), 0.0);
        new LawMaker(law.desk, 1, 0);
        Edges.due("another law begins at 0", law.desk.constant(1, 1, 0), 0);
    }

    private static void ready() {
        for (int n = 1; n <= 6; n++) {
            for (int last = 0; last < n; last++) {
                LawMaker law = new LawMaker(new MotionStepper(), n, 0);
                law.constant(1, 0);
                for (int i = 0; i < n; i++) {
                    Edges.due(i + " sides of " + n, law.desk.run(0, 0, 0), STATE);
                    law.side((last + 1 + i) % n, 0);
                }
                Edges.due("all sides of " + n, law.desk.run(0, 0, 0), 0);
            }
        }
    }

    private static void points() {
        MotionStepper x = new MotionStepper();
        for (int s = 0; s < 8; s++) {
            Edges.due("signal " + s, x.signal(s % 2), s);
        }
        Edges.due("an eighth one more", x.signal(0), FULL);
        for (int p = 0; p < 16; p++) {
            Edges.due("point " + p, x.point(7, p, -p, 0), p);
        }
        Edges.due("point 16", x.point(7, 16, 0, 0), FULL);
        Edges.due("another signal's point", x.point(6, 0, 0, 0), 0);
        Edges.due("a time that stands", x.point(6, 0, 0, 30), STATE);
        Edges.due("a time that falls", x.point(6, -1, 0, 30), STATE);
        Edges.due("a time that rises", x.point(6, 1, 0, 30), 1);
        LawMaker law = new LawMaker(x, 1, 0);
        int q = law.node(12, law.state(0), 7, 0);
        law.side(0, q);
        int r = law.run(0, 0);
        x.set(r, 0, 15, 0);
        Edges.dueNumber("point 15", x.value(r, q), -15.0);
        x.set(r, 0, 16, 0);
        Edges.dueNumber("behind it", x.value(r, q), -15.0);
        // Odd ones are LINES here, even ones STEPS.
        for (int s = 0; s < 6; s++) {
            x.point(s, 8, 0, 0);
            x.point(s, 24, 64, 0);
            Edges.dueNumber("halfway on signal " + s,
                x.value(r, law.node(12, 0, s, 0)), s % 2 == 0 ? 0.0 : 32.0);
        }
    }

    private static void leaves() {
        MotionStepper x = new MotionStepper();
        LawMaker law = new LawMaker(x, 6, 0);
        for (int i = 0; i < 6; i++) {
            law.side(i, law.state(i));
        }
        int time = law.time();
        int r = law.run(-5, 1);
        for (int i = 0; i < 6; i++) {
            x.set(r, i, 10 + i, 0);
        }
        for (int i = 0; i < 6; i++) {
            Edges.dueNumber("state " + i, x.value(r, i), 10.0 + i);
        }
        Edges.dueNumber("time", x.value(r, time), -2.5);
        Edges.due("state 6 of 6", x.node(0, 0, 6, 0, 0), NUMBER);
        int constant = law.constant(-5, 3);
        Edges.dueNumber("constant", x.value(r, constant), -0.625);
        // Another state and another time of the same NODES.
        x.step(r);
        Edges.dueNumber("state 5", x.value(r, 5), 15.0 + 0.125 * 15.0);
        Edges.dueNumber("time", x.value(r, time), -2.375);
        Edges.dueNumber("constant", x.value(r, constant), -0.625);
    }

    /** Each VARIABLE of each n is NARROW or not as its bit says, whatever the others are. */
    private static void variables() {
        double wide = (1L << 24) + 1;
        for (int n = 1; n <= 6; n++) {
            for (int narrow = 0; narrow < 1 << n; narrow++) {
                LawMaker law = new LawMaker(new MotionStepper(), n, narrow);
                law.constant(0, 0);
                for (int i = 0; i < n; i++) {
                    law.side(i, 0);
                }
                Edges.due("side of variable " + n, law.desk.side(0, n, 0), NUMBER);
                int r = law.run(0, 0);
                for (int i = 0; i < n; i++) {
                    Edges.due("variable " + i, law.desk.set(r, i, (long) wide, 0), 1);
                    boolean isNarrow = (narrow >> i & 1) == 1;
                    Edges.dueNumber("bits " + narrow + " of " + n + ", variable " + i,
                        law.desk.state(r, i), isNarrow ? (float) wide : wide);
                }
                Edges.due("no variable " + n, law.desk.state(r, n), NONE);
                Edges.due("no variable -1", law.desk.state(r, -1), NONE);
            }
        }
    }

    private static void operations() {
        dueKind(2, 7.5, -2.25, 5.25);
        dueKind(2, -2.25, 7.5, 5.25);
        dueKind(3, 7.5, -2.25, 9.75);
        dueKind(3, -2.25, 7.5, -9.75);
        dueKind(4, 7.5, -2.25, -16.875);
        dueKind(4, -2.25, -2.25, 5.0625);
        dueKind(5, 7.5, -2.5, -3.0);
        dueKind(5, -2.5, 10.0, -0.25);
    }

    /** A NODE of NODES goes by their values at the same state and time; none is of itself or later. */
    private static void earlierNodes() {
        LawMaker law = new LawMaker(new MotionStepper(), 1, 0);
        int state = law.state(0);
        int time = law.time();
        int sum = law.node(2, state, time, 0);
        int square = law.node(4, sum, sum, 0);
        int rest = law.node(3, square, state, 0);
        int chosen = law.node(10, rest, time, sum);
        for (int kind = 2; kind <= 12; kind++) {
            Edges.due("kind " + kind + " of itself", law.desk.node(0, kind, chosen + 1, 0, 0), NUMBER);
            Edges.due("kind " + kind + " of a later one", law.desk.node(0, kind, chosen + 2, 0, 0), NUMBER);
        }
        int r = law.side(0, chosen).run(3, 0);
        long[] states = {5, -2, 0, -4};
        for (long x : states) {
            law.desk.set(r, 0, x, 0);
            double there = (x + 3) * (x + 3) - x;
            Edges.dueNumber("a sum at " + x, law.desk.value(r, sum), x + 3);
            Edges.dueNumber("a product of sums at " + x, law.desk.value(r, square), (x + 3) * (x + 3));
            Edges.dueNumber("a difference at " + x, law.desk.value(r, rest), there);
            Edges.dueNumber("a choice at " + x, law.desk.value(r, chosen), there < 0 ? 3 : x + 3);
        }
        // The highest NODE of all, of the one ahead of it and the first one.
        while (law.desk.many(3) < 47) {
            law.node(6, law.desk.many(3) - 1, 0, 0);
        }
        int last = law.node(2, 46, 0, 0);
        Edges.due("the last one", last, 47);
        double ahead = Double.longBitsToDouble(law.desk.value(r, 46));
        Edges.dueNumber("it goes by 46 and 0", law.desk.value(r, last), ahead - 4);
    }

    private static void negated() {
        double[] numbers = {0.0, -0.0, 1.5, LEAST, GREATEST, INFINITY, -INFINITY, NAN};
        for (double a : numbers) {
            dueKind(6, a, 0, -a);
        }
    }

    private static void size() {
        double[] numbers = {0.0, -0.0, 1.5, -1.5, -LEAST, -GREATEST, INFINITY, -INFINITY, NAN};
        for (double a : numbers) {
            dueKind(7, a, 0, Math.abs(a));
        }
    }

    private static void leastAndGreatest() {
        dueKind(8, -0.0, 0.0, -0.0);
        dueKind(8, 0.0, -0.0, -0.0);
        dueKind(8, 0.0, 0.0, 0.0);
        dueKind(8, -0.0, -0.0, -0.0);
        dueKind(9, -0.0, 0.0, 0.0);
        dueKind(9, 0.0, -0.0, 0.0);
        dueKind(9, 0.0, 0.0, 0.0);
        dueKind(9, -0.0, -0.0, -0.0);
        double[] numbers = {-INFINITY, -GREATEST, -1.0, -LEAST, 0.0, LEAST, 1.0, INFINITY};
        for (int i = 0; i < numbers.length; i++) {
            for (int j = 0; j < numbers.length; j++) {
                dueKind(8, numbers[i], numbers[j], numbers[Math.min(i, j)]);
                dueKind(9, numbers[i], numbers[j], numbers[Math.max(i, j)]);
            }
            dueKind(8, numbers[i], NAN, NAN);
            dueKind(8, NAN, numbers[i], NAN);
            dueKind(9, numbers[i], NAN, NAN);
            dueKind(9, NAN, numbers[i], NAN);
        }
        dueKind(8, NAN, NAN, NAN);
        dueKind(9, NAN, NAN, NAN);
    }

    private static void choice() {
        double[] below = {-LEAST, -1.0, -INFINITY};
        double[] others = {-0.0, 0.0, LEAST, 1.0, INFINITY, NAN};
        for (double a : below) {
            Edges.dueNumber("choice by " + a, valueOf(10, a, 7, 9), 7.0);
            Edges.dueNumber("choice by " + a + " beside none", valueOf(10, a, 7, NAN), 7.0);
            Edges.due("choice by " + a + " of none", valueOf(10, a, NAN, 9), NONE);
        }
        for (double a : others) {
            Edges.dueNumber("choice by " + a, valueOf(10, a, 7, 9), 9.0);
            Edges.dueNumber("choice by " + a + " beside none", valueOf(10, a, NAN, 9), 9.0);
            Edges.due("choice by " + a + " of none", valueOf(10, a, 7, NAN), NONE);
        }
    }

    private static void power() {
        double[] numbers = {0.0, -0.0, 1.0, -1.0, 1.1, -3.7, 0x1p114, 0x1p113, 0x1p-125, LEAST,
            INFINITY, -INFINITY, NAN};
        for (double a : numbers) {
            double want = 1.0;
            for (int m = 0; m <= 9; m++) {
                Edges.dueNumber("power " + m + " of " + a, powerOf(a, m), want);
                want = want * a;
            }
        }
        // From the left: in another order the rounding of 1.1's powers is another one.
        double square = 1.1 * 1.1;
        double other = (square * square) * (square * square);
        Edges.dueTrue("power 8 in pairs is another number",
            powerOf(1.1, 8) != Double.doubleToLongBits(other));
    }

    /** The value of a SIGNAL at a. */
    private static long signalAt(int how, double[][] points, double a) {
        MotionStepper x = new MotionStepper();
        x.signal(how);
        for (double[] point : points) {
            x.point(0, (long) point[0], (long) point[1], 0);
        }
        LawMaker law = new LawMaker(x, 1, 0);
        int q = law.node(12, law.number(a), 0, 0);
        law.side(0, q);
        return x.value(law.run(0, 0), q);
    }

    private static void dueSignal(double[][] points, double a, double step, double line) {
        Edges.dueNumber("STEP at " + a, signalAt(0, points, a), step);
        Edges.dueNumber("LINE at " + a, signalAt(1, points, a), line);
    }

    private static void signalWithoutPoints() {
        double[] numbers = {0.0, -5.0, INFINITY, -INFINITY, NAN};
        for (double a : numbers) {
            dueSignal(new double[0][], a, 0.0, 0.0);
        }
    }

    private static void signalAtNone() {
        dueSignal(new double[][] {{0, 7}}, NAN, NAN, NAN);
        dueSignal(new double[][] {{0, 7}, {1, 8}}, NAN, NAN, NAN);
    }

    private static void signalOutside() {
        double[][] one = {{4, 7}};
        double[] anywhere = {-INFINITY, -1e300, Math.nextDown(4.0), 4.0, Math.nextUp(4.0), INFINITY};
        for (double a : anywhere) {
            dueSignal(one, a, 7, 7);
        }
        double[][] two = {{-4, 7}, {4, 11}};
        double[] ahead = {-INFINITY, -1e300, -5.0, Math.nextDown(-4.0), -4.0};
        for (double a : ahead) {
            dueSignal(two, a, 7, 7);
        }
        double[] behind = {4.0, Math.nextUp(4.0), 5.0, 1e300, INFINITY};
        for (double a : behind) {
            dueSignal(two, a, 11, 11);
        }
    }

    private static void stepBetween() {
        double[][] points = {{0, 5}, {1, -9}, {3, 40}};
        double[] at = {LEAST, 0.5, Math.nextDown(1.0), 1.0, Math.nextUp(1.0), 2.0, Math.nextDown(3.0)};
        double[] want = {5, 5, 5, -9, -9, -9, -9};
        for (int i = 0; i < at.length; i++) {
            Edges.dueNumber("STEP at " + at[i], signalAt(0, points, at[i]), want[i]);
        }
        Edges.dueNumber("STEP at the last time", signalAt(0, points, 3.0), 40.0);
    }

    private static void lineBetween() {
        double[][] points = {{0, 5}, {1, -9}, {4, 40}};
        double[] first = {LEAST, 0.1, 0.5, Math.nextDown(1.0)};
        for (double a : first) {
            double want = 5.0 + (-9.0 - 5.0) * ((a - 0.0) / (1.0 - 0.0));
            Edges.dueNumber("LINE at " + a, signalAt(1, points, a), want);
        }
        Edges.dueNumber("LINE at an inner time", signalAt(1, points, 1.0), -9.0);
        double[] second = {Math.nextUp(1.0), 1.1, 2.0, Math.nextDown(4.0)};
        for (double a : second) {
            double want = -9.0 + (40.0 + 9.0) * ((a - 1.0) / (4.0 - 1.0));
            Edges.dueNumber("LINE at " + a, signalAt(1, points, a), want);
        }
        // The written order of rounding: another one tells another number here.
        double[][] three = {{0, 5}, {3, -9}};
        double written = 5.0 + (-9.0 - 5.0) * ((1.2 - 0.0) / (3.0 - 0.0));
        Edges.dueTrue("another order is another number", written != 5.0 + (-14.0 * 1.2) / 3.0);
        Edges.dueNumber("LINE at 1.2", signalAt(1, three, 1.2), written);
        // Times and values as far apart as may be.
        double[][] far = {{-0x1p63, 0x1p63}, {0x1p62, -0x1p63}};
        double part = (0.0 + 0x1p63) / (0x1p62 + 0x1p63);
        Edges.dueNumber("LINE far away", signalAt(1, far, 0.0), 0x1p63 + (-0x1p63 - 0x1p63) * part);
    }

    /** What is in a NARROW VARIABLE, and in one that isn't, when a is put there by a step. */
    private static void duePut(double a) {
        LawMaker law = new LawMaker(new MotionStepper(), 2, 2);
        int q = law.number(a);
        law.side(0, q).side(1, q);
        int r = law.run(0, 0);
        law.desk.length(r, 1, 0);
        double narrow = (double) (float) a;
        if (Double.isInfinite(narrow)) {
            Edges.due("too large for a float: " + a, law.desk.step(r), WILD);
            return;
        }
        Edges.due("step by " + a, law.desk.step(r), 0);
        Edges.dueNumber("wide " + a, law.desk.state(r, 0), a);
        Edges.dueNumber("narrow " + a, law.desk.state(r, 1), narrow);
    }

    private static void put() {
        double[] numbers = {1.0, 1.0 + 0x1p-24, 1.0 + 0x1p-24 + 0x1p-50, 1.0 + 3 * 0x1p-24, 0.1,
            -Math.PI, Float.MAX_VALUE, Math.nextDown(0x1.ffffffp127), 0x1.ffffffp127, 0x1p128,
            -0x1p128, Float.MIN_VALUE, Float.MIN_VALUE / 2.0, Math.nextUp(Float.MIN_VALUE / 2.0),
            Float.MIN_NORMAL, 0x1p-1000};
        for (double a : numbers) {
            duePut(a);
        }
        // By set(), too.
        LawMaker law = new LawMaker(new MotionStepper(), 2, 1);
        int q = law.constant(0, 0);
        law.side(0, q).side(1, q);
        int r = law.run(0, 0);
        long[] longs = {(1L << 24) + 1, (1L << 24) + 3, (1L << 30) + 65, Long.MAX_VALUE, -16777217};
        for (long n : longs) {
            for (int i = 0; i < 2; i++) {
                law.desk.set(r, i, n, 5);
                double wide = (double) n / 32;
                Edges.dueNumber("set " + n, law.desk.state(r, i), i == 0 ? (float) wide : wide);
            }
        }
    }
}
