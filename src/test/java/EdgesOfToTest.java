/** Promise 16: steps until a time. */
public final class EdgesOfToTest {
    private static final int NUMBER = MotionStepper.NUMBER;
    private static final int STATE = MotionStepper.STATE;
    private static final int WILD = MotionStepper.WILD;
    private static final int SMALL = MotionStepper.SMALL;
    private static final long NONE = MotionStepper.NONE;
    private static final int MIN = Integer.MIN_VALUE;
    private static final int MAX = Integer.MAX_VALUE;
    private static final double INFINITY = Double.POSITIVE_INFINITY;
    private static final long UNIT = 1L << 30;

    public static void main(String[] args) {
        Edges.sentence("Steps until the time is T = n / 2^k: how many were TAKEN.",
            EdgesOfToTest::untilT);
        Edges.sentence("Each step has the LENGTH, or T - t (the difference, as a NUMBER) if the size of "
            + "that isn't above the LENGTH's: then it is CUT", EdgesOfToTest::cut);
        Edges.sentence("if it is TAKEN as it was CUT, the time becomes T itself",
            EdgesOfToTest::timeItself);
        Edges.sentence("and the LENGTH is as ahead of it.", EdgesOfToTest::lengthAsAhead);
        Edges.sentence("(With EVENTS, as by step(); BETWEEN and EVENTS go by h as ever",
            EdgesOfToTest::eventsGoByH);
        Edges.sentence("an EVENT that brings the time back isn't followed by T.)",
            EdgesOfToTest::broughtBack);
        Edges.sentence("It ends, too, when the RUN is ENDED", EdgesOfToTest::endsWhenEnded);
        Edges.sentence("or most steps were TAKEN.", EdgesOfToTest::most);
        Edges.sentence("If a step is WILD or REFUSED, all is as ahead of the call, and that is answered.",
            EdgesOfToTest::asAhead);
        Edges.sentence("NUMBER: there is no such RUN, k isn't 0 to 30, most isn't 1 to 200",
            EdgesOfToTest::numbers);
        Edges.sentence("STATE: the RUN is ENDED (also if T is t)", EdgesOfToTest::ended);
        Edges.sentence("or T - t and the LENGTH have not one sign (T - t is not 0); WILD; SMALL.",
            EdgesOfToTest::signs);
        Edges.sentence("(If T is t: 0.)", EdgesOfToTest::there);
        Edges.end();
    }

    /** climb() by PAIR, whose LENGTH grows by 4 behind each step that isn't CUT. */
    private static MotionStepper growing(long n, int k) {
        MotionStepper x = Desks.climb();
        x.method(0, 4);
        x.length(0, n, k);
        return x;
    }

    private static void untilT() {
        long[] targets = {1, 3, 8, 25};
        int[] powers = {0, 2, 3, 3};
        int[] taken = {8, 6, 8, 25};
        for (int i = 0; i < targets.length; i++) {
            for (int sign = -1; sign <= 1; sign += 2) {
                MotionStepper x = Desks.decay();
                x.length(0, sign, 3);
                double want = 1;
                for (int round = 0; round < taken[i]; round++) {
                    want = want + sign * 0.125 * -want;
                }
                Edges.due("to " + targets[i], x.to(0, sign * targets[i], powers[i], 200), taken[i]);
                Edges.dueNumber("time", x.clock(0, 0), sign * targets[i] / Math.pow(2, powers[i]));
                Edges.dueNumber("state", x.state(0, 0), want);
                Edges.due("TAKEN", x.count(0, 2), taken[i]);
                Edges.due("there", x.to(0, sign * targets[i], powers[i], 200), 0);
            }
        }
        // REJECTED ones are none of them.
        MotionStepper y = rejectedWhenCut();
        int many = y.to(0, 1, 0, 200);
        Edges.dueTrue("REJECTED ones", y.count(0, 3) > 0);
        Edges.due("TAKEN ones alone", many, y.count(0, 2));
        Edges.dueNumber("time", y.clock(0, 0), 1.0);
        // From where the last call has come to.
        MotionStepper z = Desks.decay();
        Edges.due("to 1", z.to(0, 1, 0, 200), 8);
        Edges.due("to 3", z.to(0, 3, 0, 200), 16);
        Edges.due("TAKEN", z.count(0, 2), 24);
    }

    private static void cut() {
        for (int sign = -1; sign <= 1; sign += 2) {
            MotionStepper x = growing(sign, 3);
            Edges.due("to the very LENGTH", x.to(0, sign, 3, 9), 1);
            Edges.dueNumber("CUT: it has not grown", x.clock(0, 1), sign * 0.125);
            Edges.dueNumber("h", x.clock(0, 3), sign * 0.125);
            MotionStepper y = growing(sign, 3);
            Edges.due("2^-30 more", y.to(0, sign * (UNIT / 8 + 1), 30, 9), 2);
            Edges.dueNumber("not CUT: it has grown", y.clock(0, 1), sign * 0.5);
            Edges.dueNumber("h of the rest", y.clock(0, 3), sign * 0x1p-30);
            MotionStepper z = growing(sign, 3);
            Edges.due("2^-30 less", z.to(0, sign * (UNIT / 8 - 1), 30, 9), 1);
            Edges.dueNumber("CUT: it has not grown", z.clock(0, 1), sign * 0.125);
            Edges.dueNumber("h", z.clock(0, 3), sign * (0.125 - 0x1p-30));
        }
        // By steps of 3/8 to 1: two whole ones and a CUT one.
        MotionStepper w = Desks.climb();
        w.length(0, 3, 3);
        Edges.due("three", w.to(0, 1, 0, 200), 3);
        Edges.dueNumber("h", w.clock(0, 3), 0.25);
        Edges.dueNumber("time", w.clock(0, 0), 1.0);
        Edges.due("taken", w.count(0, 2), 3);
        // Where times are whole numbers, and even ones behind 2^53.
        LawMaker law = new LawMaker(new MotionStepper(), 1, 0);
        law.side(0, law.constant(1, 0));
        law.run((1L << 53) - 1, 0);
        law.desk.length(0, 1024, 0);
        Edges.due("to 2^53 + 1022", law.desk.to(0, (1L << 53) + 1022, 0, 9), 1);
        Edges.dueNumber("h", law.desk.clock(0, 3), 1023.0);
        Edges.dueNumber("time", law.desk.clock(0, 0), 0x1p53 + 1022);
    }

    /** The time that fine() brings RUN 0 to: t + (T - t) is more than T for some T. */
    private static final double FINE = -7969177 * 0x1p-30 + 214748365 * 0x1p-30 * (5 * 0x1p-30);

    /**
     * x' = 1, NODE 4 is t. An EVENT at x = 2^-30 in a step of length / 2^30 has brought RUN 0 to a
     * time that is no n / 2^30; the LENGTH is 1 now.
     */
    private static LawMaker fine(long start, long length) {
        LawMaker law = new LawMaker(new MotionStepper(), 1, 0);
        law.side(0, law.constant(1, 0));
        int above = law.node(3, law.state(0), law.constant(1, 30), 0);
        law.time();
        law.run(start, 30);
        law.desk.length(0, length, 30);
        law.desk.event(0, above, 1, 3, 0);
        Edges.due("step", law.desk.step(0), 0);
        law.desk.length(0, 1, 0);
        return law;
    }

    private static LawMaker fine() {
        return fine(-7969177, 5);
    }

    private static void timeItself() {
        Edges.dueTrue("t + (T - t) is not T", FINE + (1258291 * 0x1p-30 - FINE) != 1258291 * 0x1p-30);
        MotionStepper x = fine().desk;
        Edges.dueNumber("a fine time", x.clock(0, 0), FINE);
        Edges.due("to", x.to(0, 1258291, 30, 9), 1);
        Edges.dueNumber("T", x.clock(0, 0), 1258291 * 0x1p-30);
        Edges.dueNumber("h", x.clock(0, 3), 1258291 * 0x1p-30 - FINE);
        Edges.due("there", x.to(0, 1258291, 30, 9), 0);
        // A step of less than 2^-30 may be CUT, by a PAIR too.
        for (int m = 0; m < 6; m++) {
            MotionStepper y = fine().desk;
            y.method(0, m);
            Edges.due("a short one by " + m, y.to(0, -7969175, 30, 9), 1);
            Edges.dueNumber("T", y.clock(0, 0), -7969175 * 0x1p-30);
            Edges.dueTrue("it is short", y.clock(0, 3) < Double.doubleToLongBits(0x1p-30));
            Edges.dueNumber("LENGTH", y.clock(0, 1), 1.0);
        }
        // One that is REJECTED isn't TAKEN as it was CUT: the time is t + h, the LENGTH is h.
        MotionStepper z = rejectedWhenCut();
        Edges.due("one step", z.to(0, 1, 0, 1), 1);
        Edges.due("rejected", z.count(0, 3), 1);
        Edges.dueNumber("time", z.clock(0, 0), 0.5);
        Edges.dueNumber("LENGTH", z.clock(0, 1), 0.5);
        // The next one is CUT again, and REJECTED again, as its ERROR is 4; then it goes on by that.
        Edges.due("to the end", z.to(0, 1, 0, 200) > 0 ? 1 : 0, 1);
        Edges.dueNumber("T", z.clock(0, 0), 1.0);
    }

    /** x' jumps from 0 to 72 at time 1: a PAIR to it has an ERROR of 8; LENGTH 16. */
    private static MotionStepper rejectedWhenCut() {
        LawMaker law = new LawMaker(new MotionStepper(), 1, 0);
        law.side(0, law.table(law.time(), new double[] {1.0}, new double[] {0, 72}));
        law.run(0, 0);
        law.desk.method(0, 4);
        law.desk.length(0, 16, 0);
        law.desk.tolerance(0, 9, 0, 3);
        return law.desk;
    }

    private static void lengthAsAhead() {
        MotionStepper x = growing(16, 0);
        Edges.due("CUT", x.to(0, 1, 2, 9), 1);
        Edges.dueNumber("LENGTH", x.clock(0, 1), 16.0);
        Edges.dueNumber("h", x.clock(0, 3), 0.25);
        // The LENGTH that whole ones made is the one ahead of it.
        MotionStepper y = growing(1, 0);
        Edges.due("1, 4, 16 and the rest", y.to(0, 23, 0, 9), 4);
        Edges.dueNumber("LENGTH", y.clock(0, 1), 64.0);
        Edges.dueNumber("h", y.clock(0, 3), 2.0);
        MotionStepper z = growing(1, 0);
        Edges.due("1, 4 and 16", z.to(0, 21, 0, 9), 3);
        Edges.dueNumber("LENGTH: the last one is CUT", z.clock(0, 1), 16.0);
        // Other METHODS.
        for (int m = 0; m < 6; m++) {
            MotionStepper w = Desks.climb();
            w.method(0, m);
            w.length(0, 5, 1);
            Edges.due("METHOD " + m, w.to(0, 1, 0, 9), 1);
            Edges.dueNumber("LENGTH", w.clock(0, 1), 2.5);
        }
    }

    private static void eventsGoByH() {
        // The step ends at t + h, which is behind T in one case and ahead of it in the other.
        double other = -12000001 * 0x1p-30 + 153391690 * 0x1p-30 * (7 * 0x1p-30);
        dueEventAtCut(fine(), FINE, 1258291, 1);
        dueEventAtCut(fine(-12000001, 7), other, 6000000, -1);
        // As by step(): each EVENT of each step.
        MotionStepper y = Desks.climb();
        y.length(0, 3, 2);
        y.event(0, 3, 1, 0, 0);
        y.event(0, 3, 1, 0, 0);
        Edges.due("to", y.to(0, 3, 0, 9), 4);
        Edges.due("fired", y.count(0, 7), 2);
        Edges.dueNumber("BETWEEN, x0", y.between(0, 0, 0, 0), 2.25);
        Edges.dueNumber("BETWEEN, x1", y.between(0, 0, 1, 0), 3.0);
    }

    /** side: of T, where t + h is. */
    private static void dueEventAtCut(LawMaker law, double from, long n, int side) {
        MotionStepper x = law.desk;
        double target = n * 0x1p-30;
        double end = from + (target - from);
        Edges.dueTrue("t + h is beside T", side > 0 ? end > target : end < target);
        x.event(0, law.node(3, 4, law.constant(n, 30), 0), 1, 3, 0);
        Edges.due("to", x.to(0, n, 30, 1), 1);
        Edges.due("it comes if t + h is not ahead of T", x.count(0, 7), side > 0 ? 2 : 1);
        Edges.dueNumber("T", x.clock(0, 0), target);
        Edges.dueNumber("h", x.clock(0, 3), target - from);
        if (side > 0) {
            Edges.dueNumber("when", x.fired(0, 1, 1), end);
        }
    }

    private static void broughtBack() {
        // The step from 0 to 2 is CUT; the EVENT at 1 brings it back, and another one is CUT then.
        MotionStepper x = growing(16, 0);
        x.event(0, 3, 1, 3, 0);
        Edges.due("the first one", x.to(0, 2, 0, 1), 1);
        Edges.dueNumber("not T", x.clock(0, 0), 1.0);
        Edges.dueNumber("the LENGTH is as ahead", x.clock(0, 1), 16.0);
        Edges.dueNumber("h is the whole one's", x.clock(0, 3), 2.0);
        Edges.due("the second one", x.to(0, 2, 0, 9), 1);
        Edges.dueNumber("T", x.clock(0, 0), 2.0);
        MotionStepper y = growing(16, 0);
        y.event(0, 3, 1, 3, 0);
        Edges.due("both in one call", y.to(0, 2, 0, 9), 2);
        Edges.dueNumber("T", y.clock(0, 0), 2.0);
        Edges.dueNumber("state", y.state(0, 0), 2.0);
        // At the very end of a CUT step nothing is brought back: the time is T, for each action.
        for (int action = 0; action <= 3; action++) {
            LawMaker law = fine();
            double target = 1258293 * 0x1p-30;
            double end = FINE + (target - FINE);
            int q = law.table(4, new double[] {end}, new double[] {-1, 1});
            law.desk.event(0, q, 1, action, 0);
            Edges.due("to", law.desk.to(0, 1258293, 30, 9), 1);
            Edges.dueNumber("fired", law.desk.fired(0, 1, 1), end);
            Edges.dueNumber("T, action " + action, law.desk.clock(0, 0), target);
            Edges.due("ended", law.desk.count(0, 5), action == 1 ? 1 : 0);
        }
    }

    private static void endsWhenEnded() {
        MotionStepper x = Desks.climb();
        x.length(0, 3, 3);
        x.event(0, 3, 1, 1, 0);
        Edges.due("the third one ends it", x.to(0, 9, 0, 200), 3);
        Edges.due("ended", x.count(0, 5), 1);
        Edges.due("taken", x.count(0, 2), 3);
        Edges.dueTrue("not there", x.clock(0, 0) < Double.doubleToLongBits(1.01));
        MotionStepper y = Desks.climb();
        y.event(0, 3, 1, 1, 0);
        Edges.due("the first one", y.to(0, 9, 0, 200), 1);
        MotionStepper z = Desks.climb();
        z.event(0, 3, 1, 1, 0);
        Edges.due("the one that is there", z.to(0, 1, 0, 1), 1);
        Edges.due("ended", z.count(0, 5), 1);
    }

    private static void most() {
        int[] bounds = {1, 2, 7, 8, 9, 199, 200};
        for (int most : bounds) {
            MotionStepper x = Desks.decay();
            int want = Math.min(most, 8);
            Edges.due("8 steps, most " + most, x.to(0, 1, 0, most), want);
            Edges.due("taken", x.count(0, 2), want);
            Edges.dueNumber("time", x.clock(0, 0), want * 0.125);
            MotionStepper y = Desks.decay();
            Edges.due("far away, most " + most, y.to(0, 1000, 0, most), most);
            Edges.dueNumber("time", y.clock(0, 0), most * 0.125);
        }
        // Steps that do not move the time end by that, too.
        LawMaker law = new LawMaker(new MotionStepper(), 1, 0);
        law.side(0, law.constant(1, 0));
        law.run(1L << 53, 0);
        Edges.due("2^53 + 1/8 is 2^53", law.desk.to(0, (1L << 53) + 4, 0, 200), 200);
        Edges.dueNumber("time", law.desk.clock(0, 0), 0x1p53);
        Edges.dueNumber("state", law.desk.state(0, 0), 25.0);
    }

    /** x' is one of the values by time; NODE 1 is t - 1/4. RUN 0 at time 0, LENGTH 1/4, an EVENT. */
    private static MotionStepper eventful(int method, double[] limits, double[] values) {
        LawMaker law = new LawMaker(new MotionStepper(), 1, 0);
        int time = law.time();
        int q = law.node(3, time, law.constant(3, 3), 0);
        law.side(0, law.table(time, limits, values));
        law.run(0, 0);
        MotionStepper x = law.desk;
        x.length(0, 1, 2);
        x.event(0, q, 1, 2, 0);
        x.method(0, method);
        x.keep(0, 2);
        return x;
    }

    private static void asAhead() {
        for (int m = 0; m < 6; m++) {
            int method = m;
            Edges.Maker wild = () -> {
                MotionStepper x = eventful(method, new double[] {1}, new double[] {1, INFINITY});
                x.tolerance(0, 1, 0, 0);
                return x;
            };
            Edges.dueUnchanged("WILD behind others, METHOD " + m, wild, x -> x.to(0, 9, 0, 200), WILD);
            Edges.Maker later = () -> {
                MotionStepper x = wild.make();
                x.step(0);
                x.step(0);
                return x;
            };
            Edges.dueUnchanged("WILD behind a step, METHOD " + m, later, x -> x.to(0, 9, 0, 200), WILD);
        }
        // A PAIR: REJECTED ones ahead of it, an EVENT, then a jump that is never small enough.
        Edges.Maker refused = () -> {
            MotionStepper x = eventful(4, new double[] {0.0625, 2}, new double[] {0, 1, 0x1p62});
            x.tolerance(0, 1, 0, 30);
            return x;
        };
        Edges.dueUnchanged("REFUSED behind others", refused, x -> x.to(0, 9, 0, 200), SMALL);
        MotionStepper x = refused.make();
        Edges.dueTrue("steps ahead of it", x.to(0, 1, 0, 200) > 1);
        Edges.dueTrue("REJECTED ones", x.count(0, 3) > 0);
        Edges.due("an EVENT", x.count(0, 7), 1);
        // The first step, too.
        Edges.dueUnchanged("WILD at once", () -> eventful(0, new double[0], new double[] {INFINITY}),
            y -> y.to(0, 9, 0, 200), WILD);
        Edges.Maker jump = () -> {
            MotionStepper y = Desks.jump();
            y.length(0, 1, 30);
            return y;
        };
        Edges.dueUnchanged("REFUSED at once", jump, y -> y.to(0, 9, 0, 200), SMALL);
        // A CUT one that would become too small.
        Edges.Maker cut = () -> {
            MotionStepper y = Desks.jump();
            y.length(0, 1024, 0);
            return y;
        };
        Edges.dueUnchanged("REFUSED when CUT", cut, y -> y.to(0, 1, 30, 1), SMALL);
        // Most of them are TAKEN ahead of the WILD one: no refusal.
        MotionStepper z = eventful(0, new double[] {1}, new double[] {1, INFINITY});
        Edges.due("just as many", z.to(0, 9, 0, 4), 4);
        Edges.due("one more", z.to(0, 9, 0, 1), 1);
        Edges.due("the next one", z.to(0, 9, 0, 1), WILD);
    }

    private static void numbers() {
        MotionStepper x = Desks.decay();
        int[] runs = {MIN, -1, 1, 3, 4, MAX};
        for (int r : runs) {
            Edges.due("to of run " + r, x.to(r, 1, 0, 1), NUMBER);
        }
        int[] powers = {MIN, -1, 31, 32, MAX};
        for (int k : powers) {
            Edges.due("to, k " + k, x.to(0, 1, k, 1), NUMBER);
        }
        int[] wrong = {MIN, -1, 0, 201, 202, MAX};
        for (int most : wrong) {
            Edges.due("most " + most, x.to(0, 1, 0, most), NUMBER);
            Edges.due("most " + most + ", T is t", x.to(0, 0, 0, most), NUMBER);
            Edges.due("most " + most + ", signs", x.to(0, -1, 0, most), NUMBER);
        }
        Edges.due("k 31, signs", x.to(0, -1, 31, 1), NUMBER);
        Edges.due("nothing was done", x.count(0, 2), 0);
        Edges.due("k 30", x.to(0, 1, 30, 1), 1);
        Edges.dueNumber("time", x.clock(0, 0), 0x1p-30);
        Edges.due("most 200", x.to(0, Long.MAX_VALUE, 0, 200), 200);
    }

    private static void ended() {
        MotionStepper x = Desks.climb();
        x.event(0, 3, 1, 1, 0);
        x.step(0);
        Edges.due("ended", x.to(0, 9, 0, 9), STATE);
        Edges.due("ended, T is t", x.to(0, 1, 0, 9), STATE);
        Edges.due("ended, signs", x.to(0, -9, 0, 9), STATE);
        Edges.due("ended, most 0", x.to(0, 9, 0, 0), NUMBER);
        Edges.due("ended, most 201, T is t", x.to(0, 1, 0, 201), NUMBER);
        Edges.due("ended, k 31", x.to(0, 9, 31, 9), NUMBER);
        Edges.dueNumber("time", x.clock(0, 0), 1.0);
        // Ended, and a step would be WILD.
        LawMaker law = new LawMaker(new MotionStepper(), 1, 0);
        int time = law.time();
        int q = law.node(3, time, law.constant(1, 0), 0);
        law.side(0, law.table(time, new double[] {1}, new double[] {1, INFINITY}));
        law.run(0, 0);
        law.desk.length(0, 1, 0);
        law.desk.event(0, q, 1, 1, 0);
        law.desk.step(0);
        Edges.due("ended, and WILD", law.desk.to(0, 9, 0, 9), STATE);
    }

    private static void signs() {
        MotionStepper x = Desks.decay();
        Edges.due("a little ahead", x.to(0, -1, 30, 9), STATE);
        Edges.due("far ahead", x.to(0, Long.MIN_VALUE, 0, 9), STATE);
        Edges.due("a little behind", x.to(0, 1, 30, 9), 1);
        x.length(0, -1, 3);
        Edges.due("a little behind, by below 0", x.to(0, 2, 30, 9), STATE);
        Edges.due("far behind, by below 0", x.to(0, Long.MAX_VALUE, 0, 9), STATE);
        Edges.due("a little ahead, by below 0", x.to(0, 0, 30, 9), 1);
        Edges.due("T is t is no sign", x.to(0, 0, 0, 9), 0);
        // STATE ahead of WILD and of SMALL.
        LawMaker law = new LawMaker(new MotionStepper(), 1, 0);
        law.side(0, law.number(INFINITY));
        law.run(0, 0);
        Edges.due("signs, and WILD", law.desk.to(0, -1, 0, 9), STATE);
        Edges.due("WILD", law.desk.to(0, 1, 0, 9), WILD);
        MotionStepper y = Desks.jump();
        y.length(0, 1, 30);
        Edges.due("signs", y.to(0, -1, 0, 9), STATE);
        Edges.due("SMALL", y.to(0, 1, 0, 9), SMALL);
    }

    private static void there() {
        for (int sign = -1; sign <= 1; sign += 2) {
            MotionStepper x = Desks.climb();
            x.length(0, sign, 0);
            Edges.due("T is t", x.to(0, 0, 0, 1), 0);
            Edges.due("T is t, k 30", x.to(0, 0, 30, 200), 0);
            Edges.due("no step", x.count(0, 2), 0);
            Edges.due("no step", x.stage(0, 1, 0), NONE);
        }
        Edges.Maker maker = () -> {
            MotionStepper x = Desks.swing(0);
            x.method(0, 4);
            x.tolerance(0, 1, 0, 4);
            x.event(0, 1, 0, 3, 0);
            x.step(0);
            x.to(0, 5, 0, 200);
            return x;
        };
        Edges.dueUnchanged("T is t behind steps", maker, x -> x.to(0, 10, 1, 5), 0);
        // As NUMBERS: longs that are unlike may be the same one.
        LawMaker law = new LawMaker(new MotionStepper(), 1, 0);
        law.side(0, law.number(INFINITY));
        law.run(Long.MAX_VALUE, 0);
        Edges.due("2^63, and WILD otherwise", law.desk.to(0, Long.MAX_VALUE - 511, 0, 5), 0);
        Edges.due("a lesser one", law.desk.to(0, Long.MAX_VALUE - 512, 0, 5), STATE);
    }
}
