/** Promises 1 to 8: laws and signals, at the edges of what they take. */
public final class EdgesOfLawsTest {
    private static final int NUMBER = MotionStepper.NUMBER;
    private static final int STATE = MotionStepper.STATE;
    private static final int FULL = MotionStepper.FULL;
    private static final long NONE = MotionStepper.NONE;
    private static final int MIN = Integer.MIN_VALUE;
    private static final int MAX = Integer.MAX_VALUE;

    public static void main(String[] args) {
        Edges.sentence("No laws, no signals, no runs, nothing kept.", EdgesOfLawsTest::newObject);
        Edges.sentence("LAWS are numbered 0 to 7, as they come.", EdgesOfLawsTest::eightLaws);
        Edges.sentence("A LAW comes: its number.", EdgesOfLawsTest::lawComes);
        Edges.sentence("VARIABLE i is NARROW if bit i of narrow is 1.", EdgesOfLawsTest::narrowBits);
        Edges.sentence("NUMBER: n isn't 1 to 6", EdgesOfLawsTest::numberOfVariables);
        Edges.sentence("or narrow has other bits than these; FULL.", EdgesOfLawsTest::otherBits);
        Edges.sentence("A CONSTANT n / 2^k comes to a LAW: the NODE's number. NUMBER: there is no such "
            + "LAW, k isn't 0 to 30; FULL.", EdgesOfLawsTest::constant);
        Edges.sentence("A NODE comes to a LAW: its number.", EdgesOfLawsTest::nodeComes);
        Edges.sentence("NUMBER: there is no such LAW, kind isn't 0 to 12", EdgesOfLawsTest::kinds);
        Edges.sentence("or one of those that its kind needs isn't there (a VARIABLE, a NODE, a SIGNAL "
            + "that came already, a b of 0 to 9); FULL.", EdgesOfLawsTest::whatKindsNeed);
        Edges.sentence("kind: 0 STATE a, 1 TIME, 2 SUM, 3 DIFFERENCE, 4 PRODUCT, 5 QUOTIENT, 8 LEAST, 9 "
            + "GREATEST of NODES a and b, 6 NEGATED, 7 SIZE of NODE a, 10 CHOICE of NODES a, b, c, 11 "
            + "POWER b (0 to 9) of NODE a, 12 SIGNAL b at NODE a.", EdgesOfLawsTest::whatKindsDoNotNeed);
        Edges.sentence("NODE q is the SIDE of VARIABLE i of a LAW: 1. NUMBER: there is no such LAW, "
            + "VARIABLE or NODE", EdgesOfLawsTest::side);
        Edges.sentence("STATE: a RUN has the LAW.", EdgesOfLawsTest::sideOfALawInUse);
        Edges.sentence("A SIGNAL without POINTS comes: its number. NUMBER: how isn't 0 (STEP) or 1 "
            + "(LINE); FULL.", EdgesOfLawsTest::signal);
        Edges.sentence("A POINT of time t / 2^k and value v / 2^k comes to a SIGNAL: its number. NUMBER: "
            + "there is no such SIGNAL, k isn't 0 to 30", EdgesOfLawsTest::point);
        Edges.sentence("STATE: the time isn't above that of the POINT ahead; FULL.",
            EdgesOfLawsTest::timesOfPoints);
        Edges.sentence("How many: what = 0 LAWS, 1 SIGNALS, 2 RUNS, 3 to 10 NODES of LAW 0 to 7 (0 if it "
            + "isn't there); NUMBER for another what.", EdgesOfLawsTest::many);
        Edges.end();
    }

    private static void newObject() {
        MotionStepper x = new MotionStepper();
        for (int what = 0; what <= 10; what++) {
            Edges.due("many " + what, x.many(what), 0);
        }
        Edges.due("a law", x.constant(0, 1, 0), NUMBER);
        Edges.due("a law", x.node(0, 1, 0, 0, 0), NUMBER);
        Edges.due("a law", x.side(0, 0, 0), NUMBER);
        Edges.due("a law", x.run(0, 0, 0), NUMBER);
        Edges.due("a signal", x.point(0, 0, 0, 0), NUMBER);
        Edges.due("a run to set", x.set(0, 0, 0, 0), NUMBER);
        Edges.due("a run's method", x.method(0, 0), NUMBER);
        Edges.due("a run's length", x.length(0, 1, 0), NUMBER);
        Edges.due("a run's tolerance", x.tolerance(0, 1, 0, 0), NUMBER);
        Edges.due("a run's event", x.event(0, 0, 0, 0, 0), NUMBER);
        Edges.due("a run's step", x.step(0), NUMBER);
        Edges.due("a run's way", x.to(0, 0, 0, 1), NUMBER);
        Edges.due("a run's state", x.state(0, 0), NONE);
        Edges.due("a run's clock", x.clock(0, 0), NONE);
        Edges.due("a run's count", x.count(0, 0), NUMBER);
        Edges.due("a run's stage", x.stage(0, 1, 0), NONE);
        Edges.due("a run's value", x.value(0, 0), NONE);
        Edges.due("a run's between", x.between(0, 0, 0, 0), NONE);
        Edges.due("a run's fired", x.fired(0, 0, 0), NONE);
        Edges.due("a run's halves", x.halves(0, 0), NONE);
        Edges.due("a run to keep", x.keep(0, 0), NUMBER);
        Edges.due("a run to bring back", x.back(0, 0), NUMBER);
        Edges.due("a run to compare", x.unlike(0, 0), NUMBER);
        MotionStepper y = Desks.decay();
        for (int p = 0; p < 4; p++) {
            Edges.due("kept in " + p, y.back(0, p), STATE);
            Edges.due("kept in " + p, y.unlike(0, p), STATE);
        }
        Edges.due("another object's law", x.many(0), 0);
    }

    private static void eightLaws() {
        MotionStepper x = new MotionStepper();
        for (int l = 0; l < 8; l++) {
            Edges.due("law " + l, x.law(1 + l % 6, 0), l);
            Edges.due("laws", x.many(0), l + 1);
        }
        Edges.due("law 8", x.law(1, 0), FULL);
        Edges.due("laws", x.many(0), 8);
        Edges.due("a node of law 8", x.node(8, 1, 0, 0, 0), NUMBER);
        Edges.due("a constant of law 8", x.constant(8, 1, 0), NUMBER);
        Edges.due("a side of law 8", x.side(8, 0, 0), NUMBER);
        Edges.due("a run of law 8", x.run(8, 0, 0), NUMBER);
        for (int l = 0; l < 8; l++) {
            Edges.due("the last state of law " + l, x.node(l, 0, l % 6, 0, 0), 0);
            Edges.due("a state behind it", x.node(l, 0, l % 6 + 1, 0, 0), NUMBER);
        }
    }

    private static void lawComes() {
        MotionStepper x = new MotionStepper();
        Edges.due("the first one", x.law(2, 0), 0);
        Edges.due("refused", x.law(0, 0), NUMBER);
        Edges.due("a refused one has no number", x.law(3, 5), 1);
        Edges.due("laws", x.many(0), 2);
        Edges.due("no nodes yet", x.many(3), 0);
        Edges.due("no nodes yet", x.many(4), 0);
        Edges.due("its variables", x.node(1, 0, 2, 0, 0), 0);
        Edges.due("those of the first one", x.node(0, 0, 2, 0, 0), NUMBER);
        Edges.due("no sides yet", x.run(1, 0, 0), STATE);
    }

    private static void nodeComes() {
        MotionStepper x = new MotionStepper();
        x.signal(1);
        x.law(1, 0);
        x.law(1, 0);
        Edges.due("the first one", x.node(0, 1, 0, 0, 0), 0);
        Edges.due("refused", x.node(0, 13, 0, 0, 0), NUMBER);
        Edges.due("a constant has the next number", x.constant(0, 5, 0), 1);
        Edges.due("the first one of another law", x.node(1, 0, 0, 0, 0), 0);
        for (int kind = 0; kind <= 12; kind++) {
            Edges.due("kind " + kind, x.node(0, kind, 0, 0, 0), 2 + kind);
            Edges.due("nodes", x.many(3), 3 + kind);
            Edges.due("those of the other law", x.many(4), 1);
        }
    }

    private static void narrowBits() {
        for (int bit = 0; bit < 6; bit++) {
            LawMaker law = new LawMaker(new MotionStepper(), 6, 1 << bit);
            law.constant(0, 0);
            for (int i = 0; i < 6; i++) {
                law.side(i, 0);
            }
            int r = law.run(0, 0);
            for (int i = 0; i < 6; i++) {
                law.desk.set(r, i, (1L << 24) + 1, 0);
                double want = i == bit ? 0x1p24 : 0x1p24 + 1;
                Edges.dueNumber("variable " + i + ", bit " + bit, law.desk.state(r, i), want);
            }
        }
    }

    private static void numberOfVariables() {
        int[] wrong = {MIN, -1, 0, 7, 8, 31, 32, 33, 38, MAX};
        for (int n : wrong) {
            MotionStepper x = new MotionStepper();
            Edges.due("law of " + n, x.law(n, 0), NUMBER);
            Edges.due("law of " + n, x.law(n, 1), NUMBER);
            Edges.due("laws", x.many(0), 0);
        }
        for (int n = 1; n <= 6; n++) {
            Edges.due("law of " + n, new MotionStepper().law(n, 0), 0);
        }
    }

    private static void otherBits() {
        for (int n = 1; n <= 6; n++) {
            MotionStepper x = new MotionStepper();
            for (int bit = n; bit < 32; bit++) {
                Edges.due("bit " + bit + " of " + n, x.law(n, 1 << bit), NUMBER);
                Edges.due("bits 0 and " + bit + " of " + n, x.law(n, 1 << bit | 1), NUMBER);
            }
            Edges.due("all bits", x.law(n, -1), NUMBER);
            Edges.due("laws", x.many(0), 0);
            Edges.due("no bit of " + n, x.law(n, 0), 0);
            Edges.due("the first of " + n, x.law(n, 1), 1);
            Edges.due("the last of " + n, x.law(n, 1 << n - 1), 2);
            Edges.due("all of " + n, x.law(n, (1 << n) - 1), 3);
            for (int l = 4; l < 8; l++) {
                Edges.due("law " + l, x.law(n, 0), l);
            }
            Edges.due("a ninth one", x.law(n, 0), FULL);
            Edges.due("a ninth one with all bits of " + n, x.law(n, (1 << n) - 1), FULL);
            Edges.due("a ninth one with other bits", x.law(n, 1 << n), NUMBER);
            Edges.due("laws", x.many(0), 8);
        }
    }

    private static void constant() {
        MotionStepper x = new MotionStepper();
        x.law(1, 0);
        x.law(1, 0);
        int[] laws = {MIN, -1, 2, 7, 8, MAX};
        for (int l : laws) {
            Edges.due("constant of law " + l, x.constant(l, 1, 0), NUMBER);
        }
        int[] powers = {MIN, -1, 31, 32, 62, MAX};
        for (int k : powers) {
            Edges.due("constant, k " + k, x.constant(1, 1, k), NUMBER);
        }
        Edges.due("nodes", x.many(4), 0);
        Edges.due("k 0", x.constant(1, 3, 0), 0);
        Edges.due("k 30", x.constant(1, 3, 30), 1);
        for (int q = 2; q < 48; q++) {
            Edges.due("constant " + q, x.constant(1, q, 0), q);
        }
        Edges.due("constant 48", x.constant(1, 1, 0), FULL);
        Edges.due("constant 48, k 31", x.constant(1, 1, 31), NUMBER);
        Edges.due("the other law has room", x.constant(0, 1, 0), 0);
        x.side(1, 0, 1);
        Edges.due("run", x.run(1, 0, 0), 0);
        Edges.dueNumber("3", x.value(0, 0), 3.0);
        Edges.dueNumber("3 / 2^30", x.value(0, 1), 3 * 0x1p-30);
    }

    private static void kinds() {
        MotionStepper x = new MotionStepper();
        x.signal(0);
        x.law(1, 0);
        x.constant(0, 1, 0);
        int[] wrong = {MIN, -1, 13, 14, 99, MAX};
        for (int kind : wrong) {
            Edges.due("kind " + kind, x.node(0, kind, 0, 0, 0), NUMBER);
        }
        int[] laws = {MIN, -1, 1, 8, MAX};
        for (int l : laws) {
            Edges.due("node of law " + l, x.node(l, 1, 0, 0, 0), NUMBER);
        }
        Edges.due("nodes", x.many(3), 1);
        for (int kind = 0; kind <= 12; kind++) {
            Edges.due("kind " + kind, x.node(0, kind, 0, 0, 0), 1 + kind);
        }
    }

    /** Which of a, b, c are NODES that the kind needs. */
    private static boolean needsNode(int kind, int which) {
        boolean two = kind >= 2 && kind <= 5 || kind >= 8 && kind <= 10;
        return which == 0 ? kind >= 2 : which == 1 ? two : kind == 10;
    }

    private static int with(MotionStepper x, int kind, int which, int q) {
        return x.node(0, kind, which == 0 ? q : 0, which == 1 ? q : 0, which == 2 ? q : 0);
    }

    private static void whatKindsNeed() {
        MotionStepper x = new MotionStepper();
        x.signal(0);
        x.signal(1);
        x.law(3, 0);
        x.law(6, 0);
        for (int kind = 2; kind <= 12; kind++) {
            Edges.due("kind " + kind + " ahead of all nodes", x.node(0, kind, 0, 0, 0), NUMBER);
        }
        int[] variables = {MIN, -1, 3, 5, MAX};
        for (int i : variables) {
            Edges.due("state " + i, x.node(0, 0, i, 0, 0), NUMBER);
        }
        Edges.due("state 2", x.node(0, 0, 2, 0, 0), 0);
        Edges.due("time", x.node(0, 1, 0, 0, 0), 1);
        x.constant(1, 1, 0);
        x.constant(1, 1, 0);
        x.constant(1, 1, 0);
        int count = 2;
        for (int kind = 2; kind <= 12; kind++) {
            for (int which = 0; which < 3; which++) {
                if (needsNode(kind, which)) {
                    int[] nodes = {MIN, -1, count, count + 1, 47, 48, MAX};
                    for (int q : nodes) {
                        Edges.due("kind " + kind + " of " + q, with(x, kind, which, q), NUMBER);
                    }
                    Edges.due("kind " + kind + " of the last one",
                        with(x, kind, which, count - 1), count);
                    count++;
                }
            }
        }
        int[] powers = {MIN, -1, 10, 11, MAX};
        for (int m : powers) {
            Edges.due("power " + m, x.node(0, 11, 0, m, 0), NUMBER);
        }
        Edges.due("power 9", x.node(0, 11, 0, 9, 0), count);
        int[] signals = {MIN, -1, 2, 7, 8, MAX};
        for (int s : signals) {
            Edges.due("signal " + s, x.node(0, 12, 0, s, 0), NUMBER);
        }
        Edges.due("signal 1", x.node(0, 12, 0, 1, 0), count + 1);
        x.signal(0);
        Edges.due("a signal that came by now", x.node(0, 12, 0, 2, 0), count + 2);
        for (int q = count + 3; q < 48; q++) {
            Edges.due("node " + q, x.node(0, 2, q - 1, q - 1, 0), q);
        }
        for (int kind = 0; kind <= 12; kind++) {
            Edges.due("kind " + kind + " behind 48", x.node(0, kind, 0, 0, 0), FULL);
        }
        Edges.due("what is not there, behind 48", x.node(0, 2, 48, 0, 0), NUMBER);
    }

    /** What a kind does not need may be any number. */
    private static void whatKindsDoNotNeed() {
        MotionStepper x = new MotionStepper();
        x.signal(1);
        x.law(1, 0);
        x.constant(0, 5, 0);
        int[] any = {MIN, -1, 48, MAX};
        int q = 1;
        for (int kind = 0; kind <= 12; kind++) {
            boolean needsA = kind != 1;
            boolean needsB = needsNode(kind, 1) || kind == 11 || kind == 12;
            boolean needsC = kind == 10;
            for (int i = 0; i < (needsA && needsB && needsC ? 1 : 3); i++) {
                int got = x.node(0, kind, needsA ? 0 : any[i], needsB ? 0 : any[i + 1],
                    needsC ? 0 : any[i]);
                Edges.due("kind " + kind, got, q);
                q++;
            }
        }
        Edges.due("nodes", x.many(3), q);
        x.side(0, 0, 0);
        x.run(0, 3, 0);
        x.set(0, 0, -7, 0);
        // State, time, 5 + 5, 5 - 5, 5 * 5, 5 / 5, -5, 5, the least and greatest of 5 and 5,
        // the choice of 5 and 5, 5 to the power of 0, a signal without points.
        double[] want = {-7, 3, 10, 0, 25, 1, -5, 5, 5, 5, 5, 1, 0};
        q = 1;
        for (int kind = 0; kind <= 12; kind++) {
            for (int i = 0; i < (kind == 10 ? 1 : 3); i++) {
                Edges.dueNumber("kind " + kind, x.value(0, q), want[kind]);
                q++;
            }
        }
    }

    private static void side() {
        MotionStepper x = new MotionStepper();
        x.law(2, 0);
        x.law(1, 0);
        x.constant(0, 1, 0);
        x.constant(0, 2, 0);
        int[] laws = {MIN, -1, 2, 7, 8, MAX};
        for (int l : laws) {
            Edges.due("side of law " + l, x.side(l, 0, 0), NUMBER);
        }
        int[] variables = {MIN, -1, 2, 5, MAX};
        for (int i : variables) {
            Edges.due("side of variable " + i, x.side(0, i, 0), NUMBER);
        }
        int[] nodes = {MIN, -1, 2, 47, 48, MAX};
        for (int q : nodes) {
            Edges.due("side by node " + q, x.side(0, 0, q), NUMBER);
        }
        Edges.due("side by a node of another law", x.side(1, 0, 0), NUMBER);
        Edges.due("no side yet", x.run(0, 0, 0), STATE);
        Edges.due("the first variable's", x.side(0, 0, 1), 1);
        Edges.due("the last variable's", x.side(0, 1, 1), 1);
        Edges.due("another one", x.side(0, 1, 0), 1);
        x.run(0, 0, 0);
        x.step(0);
        Edges.dueNumber("k of 0", x.stage(0, 1, 0), 2.0);
        Edges.dueNumber("k of 1", x.stage(0, 1, 1), 1.0);
    }

    private static void sideOfALawInUse() {
        MotionStepper x = Desks.climb();
        x.law(1, 0);
        x.constant(1, 1, 0);
        Edges.due("of a law that a run has", x.side(0, 0, 1), STATE);
        Edges.due("even the same one", x.side(0, 0, 2), STATE);
        Edges.due("of a law that no run has", x.side(1, 0, 0), 1);
        x.run(1, 0, 0);
        Edges.due("that has a run now", x.side(1, 0, 0), STATE);
        x.step(0);
        Edges.dueNumber("k is as it was", x.stage(0, 1, 0), 1.0);
        Edges.due("a run of a law whose side is refused", x.step(1), 0);
        // An ENDED RUN has its LAW, too; one that was brought back to another LAW hasn't.
        MotionStepper y = Desks.climb();
        y.event(0, 3, 1, 1, 0);
        y.step(0);
        Edges.due("of an ended run's law", y.side(0, 0, 1), STATE);
        MotionStepper z = Desks.climb();
        z.law(1, 0);
        z.constant(1, 1, 0);
        z.side(1, 0, 0);
        z.run(1, 0, 0);
        z.keep(1, 0);
        z.back(0, 0);
        Edges.due("of a law that no run has any more", z.side(0, 0, 1), 1);
        Edges.due("of a law that both have", z.side(1, 0, 0), STATE);
        // Any one of four, and none of four.
        for (int which = 0; which < 4; which++) {
            MotionStepper w = new MotionStepper();
            for (int l = 0; l < 3; l++) {
                w.law(1, 0);
                w.constant(l, 1, 0);
                w.side(l, 0, 0);
            }
            for (int r = 0; r < 4; r++) {
                w.run(r == which ? 1 : 0, 0, 0);
            }
            Edges.due("of the law of run " + which, w.side(1, 0, 0), STATE);
            Edges.due("of the law of the others", w.side(0, 0, 0), STATE);
            Edges.due("of a law of none of them", w.side(2, 0, 0), 1);
        }
    }

    private static void signal() {
        MotionStepper x = new MotionStepper();
        int[] wrong = {MIN, -1, 2, 3, MAX};
        for (int how : wrong) {
            Edges.due("signal(" + how + ")", x.signal(how), NUMBER);
        }
        Edges.due("signals", x.many(1), 0);
        for (int s = 0; s < 8; s++) {
            Edges.due("signal " + s, x.signal(s / 4), s);
            Edges.due("its first point", x.point(s, 0, 0, 0), 0);
            Edges.due("its second point", x.point(s, 4, 8, 0), 1);
        }
        Edges.due("signal 8", x.signal(1), FULL);
        Edges.due("signal 8 of no number", x.signal(2), NUMBER);
        Edges.due("a point of signal 8", x.point(8, 9, 0, 0), NUMBER);
        Edges.due("signals", x.many(1), 8);
        LawMaker law = new LawMaker(x, 1, 0);
        int at = law.constant(2, 0);
        law.side(0, at);
        for (int s = 0; s < 8; s++) {
            law.node(12, at, s, 0);
        }
        int r = law.run(0, 0);
        for (int s = 0; s < 8; s++) {
            Edges.dueNumber("STEP or LINE " + s, x.value(r, 1 + s), s / 4 == 0 ? 0.0 : 4.0);
        }
    }

    private static void point() {
        MotionStepper x = new MotionStepper();
        x.signal(0);
        x.signal(1);
        int[] signals = {MIN, -1, 2, 7, 8, MAX};
        for (int s : signals) {
            Edges.due("point of signal " + s, x.point(s, 0, 0, 0), NUMBER);
        }
        int[] powers = {MIN, -1, 31, 32, MAX};
        for (int k : powers) {
            Edges.due("point, k " + k, x.point(1, 0, 0, k), NUMBER);
        }
        Edges.due("k 30", x.point(1, -1, 3, 30), 0);
        Edges.due("k 0", x.point(1, 7, Long.MIN_VALUE, 0), 1);
        LawMaker law = new LawMaker(x, 1, 0);
        int q = law.node(12, law.state(0), 1, 0);
        law.side(0, q);
        int r = law.run(0, 0);
        x.set(r, 0, -1, 30);
        Edges.dueNumber("at -2^-30", x.value(r, q), 3 * 0x1p-30);
        x.set(r, 0, 7, 0);
        Edges.dueNumber("at 7", x.value(r, q), -0x1p63);
    }

    private static void timesOfPoints() {
        MotionStepper x = new MotionStepper();
        x.signal(0);
        x.signal(0);
        Edges.due("the first one has none ahead", x.point(0, Long.MIN_VALUE, 0, 0), 0);
        Edges.due("the same as a NUMBER", x.point(0, Long.MIN_VALUE + 512, 0, 0), STATE);
        Edges.due("the next NUMBER", x.point(0, Long.MIN_VALUE + 513, 0, 0), 1);
        Edges.due("the same time, another k", x.point(0, Long.MIN_VALUE, 0, 0), STATE);
        Edges.due("6", x.point(0, 6, 0, 0), 2);
        Edges.due("12 / 2", x.point(0, 12, 0, 1), STATE);
        Edges.due("12 / 2 and 2^-30", x.point(0, 6 * (1L << 30) + 1, 0, 30), 3);
        Edges.due("6 once more", x.point(0, 6, 0, 0), STATE);
        Edges.due("another signal's times are its own", x.point(1, 5, 0, 0), 0);
        for (int p = 4; p < 16; p++) {
            Edges.due("point " + p, x.point(0, 3 + p, 0, 0), p);
        }
        Edges.due("a 17th one", x.point(0, 19, 0, 0), FULL);
        Edges.due("a 17th one at the last time", x.point(0, 18, 0, 0), STATE);
        Edges.due("a 17th one ahead of it", x.point(0, 17, 0, 0), STATE);
        Edges.due("a 17th one, k 31, at the last time", x.point(0, 18, 0, 31), NUMBER);
        Edges.due("the other signal has room", x.point(1, 6, 0, 0), 1);
    }

    private static void many() {
        MotionStepper x = new MotionStepper();
        int[] wrong = {MIN, -1, 11, 12, MAX};
        for (int what : wrong) {
            Edges.due("many(" + what + ")", x.many(what), NUMBER);
        }
        for (int l = 0; l < 8; l++) {
            x.law(1, 0);
            for (int q = 0; q <= l; q++) {
                x.constant(l, 1, 0);
            }
            for (int other = 0; other < 8; other++) {
                Edges.due("nodes of law " + other, x.many(3 + other), other <= l ? other + 1 : 0);
            }
            Edges.due("laws", x.many(0), l + 1);
        }
        Edges.due("signals", x.many(1), 0);
        x.signal(0);
        Edges.due("signals", x.many(1), 1);
        Edges.due("runs", x.many(2), 0);
        x.side(7, 0, 0);
        for (int r = 0; r < 4; r++) {
            x.run(7, 0, 0);
            Edges.due("runs", x.many(2), r + 1);
        }
        x.run(7, 0, 0);
        Edges.due("runs", x.many(2), 4);
    }
}
