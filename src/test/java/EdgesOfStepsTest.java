/** Term 3 with promises 15 and 24: the written METHODS, WILD steps, the control of a PAIR, halves. */
public final class EdgesOfStepsTest {
    private static final int NUMBER = MotionStepper.NUMBER;
    private static final int STATE = MotionStepper.STATE;
    private static final int WILD = MotionStepper.WILD;
    private static final int SMALL = MotionStepper.SMALL;
    private static final long NONE = MotionStepper.NONE;
    private static final int MIN = Integer.MIN_VALUE;
    private static final int MAX = Integer.MAX_VALUE;
    private static final double INFINITY = Double.POSITIVE_INFINITY;
    private static final double GREATEST = Double.MAX_VALUE;
    private static final double NAN = Double.NaN;
    private static final double[] NOT_FINITE = {INFINITY, -INFINITY, NAN};
    private static final long UNIT = 1L << 30;

    /** The written METHODS, as the document has them. */
    private static final String[] METHODS = {
        "0 PLAIN: k1 = f(t, x); y = x + h * k1.",
        "1 MIDDLE: k1 = f(t, x); y = x + g * k1; k2 = f(t + g, y); z = x + h * k2.",
        "2 THIRD: k1 = f(t, x); y = x + g * k1; k2 = f(t + g, y); y = x + h * (2 * k2 - k1); k3 = f(t + h, "
            + "y); z = x + (h / 6) * ((k1 + 4 * k2) + k3).",
        "3 FOURTH: k1 = f(t, x); y = x + g * k1; k2 = f(t + g, y); y = x + g * k2; k3 = f(t + g, y); y = x "
            + "+ h * k3; k4 = f(t + h, y); z = x + (h / 6) * (((k1 + 2 * k2) + 2 * k3) + k4).",
        "4 PAIR: k1 = f(t, x); y = x + g * k1; k2 = f(t + g, y); d is (3 * h) / 4; y = x + d * k2; k3 = f(t "
            + "+ d, y); z = x + (h / 9) * ((2 * k1 + 3 * k2) + 4 * k3); k4 = f(t + h, z); e = (h / 72) * "
            + "(((6 * k2 + 8 * k3) - 5 * k1) - 9 * k4) (not put).",
        "5 BACKWARD: k1 = f(t, x); y = x + h * k1; then six times: k2 = f(t + h, y); w = x + h * k2; the GAP "
            + "is in how many VARIABLES w and y are unlike (by value); y is w.",
        "k1 = f(t, x); y is x, with x + g * k1 put into the SPEEDS; k2 = f(t + g, y); z is y, with x + h * "
            + "k2 put into the PLACES; k3 = f(t + h, z); the SPEEDS of z become y + g * k3 (put)."};

    public static void main(String[] args) {
        Edges.sentence("f(t, x) is the row of the values of all SIDES at t and x.",
            EdgesOfStepsTest::rowOfSides);
        Edges.sentence("Of rows of NUMBERS all is said VARIABLE by VARIABLE",
            EdgesOfStepsTest::variableByVariable);
        Edges.sentence("y = .. puts (as told) what is reckoned, so a state is made of what was put",
            EdgesOfStepsTest::whatIsPut);
        Edges.sentence("k1, k2, .. are rows of values.", EdgesOfStepsTest::rowsOfValues);
        Edges.sentence("h is the length of the step, g is h / 2.", EdgesOfStepsTest::lengthAndHalf);
        for (int m = 0; m < METHODS.length; m++) {
            int method = m;
            Edges.sentence(METHODS[m], () -> written(method));
        }
        Edges.sentence("6 LEAP (n is even; the first n / 2 VARIABLES are PLACES, the others SPEEDS)",
            EdgesOfStepsTest::placesAndSpeeds);
        Edges.sentence("(Values of the other SIDES count nothing, but must be FINITE, too.)",
            EdgesOfStepsTest::otherSides);
        Edges.sentence("then six times: k2 = f(t + h, y); w = x + h * k2", EdgesOfStepsTest::sixTimes);
        Edges.sentence("the GAP is in how many VARIABLES w and y are unlike (by value)",
            EdgesOfStepsTest::gapByValue);
        Edges.sentence("What comes last is the new state, the GAP that of the sixth time.",
            EdgesOfStepsTest::gapOfSixth);
        Edges.sentence("(w is put, as y is; all six k2 must be FINITE.)", EdgesOfStepsTest::allSix);
        Edges.sentence("What is made last (y, z) is the new state, t + h the new time.",
            EdgesOfStepsTest::newTime);
        Edges.sentence("A step is WILD if a value in one of its k", EdgesOfStepsTest::wildStages);
        Edges.sentence("its new state, its e, or its new time is not FINITE.",
            EdgesOfStepsTest::wildEnds);
        Edges.sentence("A PAIR looks at its step: the RATIO of a VARIABLE is the size of e divided by (a + r * m), a and r being "
            + "the TOLERANCES and m the greater one of the sizes of its old and its new state",
            EdgesOfStepsTest::ratio);
        Edges.sentence("the ERROR is the greatest RATIO (0.0 at first).", EdgesOfStepsTest::greatestRatio);
        Edges.sentence("If the ERROR is 1 or less the step is TAKEN; else it is REJECTED",
            EdgesOfStepsTest::takenOrRejected);
        Edges.sentence("the LENGTH becomes h / 2 if the ERROR is 8 or less, else h / 4, and the step is "
            + "made anew with it.", EdgesOfStepsTest::halfOrQuarter);
        Edges.sentence("Behind a step that is TAKEN without a REJECTED one ahead of it the LENGTH becomes "
            + "h * 4 if the ERROR is 1/64 or less, h * 2 if it is 1/8 or less, else h",
            EdgesOfStepsTest::growth);
        Edges.sentence("behind REJECTED ones it stays.", EdgesOfStepsTest::behindRejected);
        Edges.sentence("A LENGTH whose size would be above 1024 becomes 1024 with its sign.",
            EdgesOfStepsTest::longest);
        Edges.sentence("If a size would be below 2^-30", EdgesOfStepsTest::shortest);
        Edges.sentence("or a 21st step in a row would be made, the step is REFUSED.",
            EdgesOfStepsTest::twentyFirst);
        Edges.sentence("(Steps of other METHODS are TAKEN if they aren't WILD.)",
            EdgesOfStepsTest::otherMethods);
        Edges.sentence("A step, TAKEN, and its EVENTS: how many were REJECTED ahead of it.",
            EdgesOfStepsTest::stepAndEvents);
        Edges.sentence("NUMBER: there is no such RUN; STATE: it is "
            + "ENDED; WILD: one of the steps made is; SMALL: REFUSED.", EdgesOfStepsTest::step);
        Edges.sentence("Two halves less one step: for VARIABLE i the new state of one step of h, the "
            + "LENGTH, taken from that of two steps of h / 2 one behind the other (the second one from the "
            + "first one's new state and time), all by the RUN's METHOD", EdgesOfStepsTest::halves);
        Edges.sentence("without control and EVENTS; the RUN stays.", EdgesOfStepsTest::halvesAlone);
        Edges.sentence("NONE: there is no such RUN or VARIABLE, it is ENDED, or one of the three steps is "
            + "WILD.", EdgesOfStepsTest::noHalves);
        Edges.end();
    }

    // ---- desks

    /** LAW 0: x' is one of the values, by time; RUN 0 at time 0, LENGTH 1. */
    private static MotionStepper byTime(int method, double[] limits, double[] values) {
        LawMaker law = new LawMaker(new MotionStepper(), 1, 0);
        law.side(0, law.table(law.time(), limits, values));
        law.run(0, 0);
        law.desk.length(0, 1, 0);
        law.desk.method(0, method);
        return law.desk;
    }

    /** LAW 0: x' is one of the values, by x; RUN 0 at time 0, x = 0, LENGTH 1. */
    private static MotionStepper byState(int method, double[] limits, double[] values) {
        LawMaker law = new LawMaker(new MotionStepper(), 1, 0);
        law.side(0, law.table(law.state(0), limits, values));
        law.run(0, 0);
        law.desk.length(0, 1, 0);
        law.desk.method(0, method);
        return law.desk;
    }

    /** A PAIR from 0 by 1, whose e is -9: x' jumps from 0 to 72 at time 1; a is the TOLERANCE. */
    private static MotionStepper nine(long a, int k) {
        MotionStepper x = byTime(4, new double[] {1.0}, new double[] {0, 72});
        x.tolerance(0, a, 0, k);
        return x;
    }

    // ---- the written METHODS

    /** One step from t, x by h, reckoned here: k1 to k4 and e are rows 0 to 4, the new state row 5. */
    private static final class Written {
        final int n;
        final int narrow;
        final double t;
        final double h;
        final double g;
        final double[] x;
        final double[][] rows = new double[6][];
        int gap;

        Written(int narrow, int method, double t, double[] x, double h) {
            n = x.length;
            this.narrow = narrow;
            this.t = t;
            this.x = x;
            this.h = h;
            g = h / 2;
            rows[0] = f(t, x);
            go(method);
        }

        /** xi' = x(i + 1) * xi - t / (3 + i), the first one behind the last one. */
        double[] f(double time, double[] at) {
            double[] row = new double[n];
            for (int i = 0; i < n; i++) {
                row[i] = at[(i + 1) % n] * at[i] - time / (3.0 + i);
            }
            return row;
        }

        double put(int i, double a) {
            return (narrow >> i & 1) == 1 ? (float) a : a;
        }

        double[] from(double[] start, double weight, double[] slope) {
            double[] row = new double[n];
            for (int i = 0; i < n; i++) {
                row[i] = put(i, start[i] + weight * slope[i]);
            }
            return row;
        }

        private void go(int method) {
            double[] k1 = rows[0];
            if (method == 0) {
                rows[5] = from(x, h, k1);
            } else if (method == 5) {
                backward();
            } else if (method == 6) {
                leap();
            } else {
                double[] k2 = f(t + g, from(x, g, k1));
                rows[1] = k2;
                if (method == 1) {
                    rows[5] = from(x, h, k2);
                } else if (method == 2) {
                    third(k1, k2);
                } else if (method == 3) {
                    fourth(k1, k2);
                } else {
                    pair(k1, k2);
                }
            }
        }

        private void third(double[] k1, double[] k2) {
            double[] slope = new double[n];
            for (int i = 0; i < n; i++) slope[i] = 2 * k2[i] - k1[i];
            double[] k3 = f(t + h, from(x, h, slope));
            for (int i = 0; i < n; i++) slope[i] = (k1[i] + 4 * k2[i]) + k3[i];
            rows[2] = k3;
            rows[5] = from(x, h / 6, slope);
        }

        private void fourth(double[] k1, double[] k2) {
            double[] k3 = f(t + g, from(x, g, k2));
            double[] k4 = f(t + h, from(x, h, k3));
            double[] slope = new double[n];
            for (int i = 0; i < n; i++) slope[i] = ((k1[i] + 2 * k2[i]) + 2 * k3[i]) + k4[i];
            rows[2] = k3;
            rows[3] = k4;
            rows[5] = from(x, h / 6, slope);
        }

        private void pair(double[] k1, double[] k2) {
            double d = (3 * h) / 4;
            double[] k3 = f(t + d, from(x, d, k2));
            double[] slope = new double[n];
            for (int i = 0; i < n; i++) slope[i] = (2 * k1[i] + 3 * k2[i]) + 4 * k3[i];
            rows[5] = from(x, h / 9, slope);
            double[] k4 = f(t + h, rows[5]);
            double[] e = new double[n];
            for (int i = 0; i < n; i++) {
                e[i] = (h / 72) * (((6 * k2[i] + 8 * k3[i]) - 5 * k1[i]) - 9 * k4[i]);
            }
            rows[2] = k3;
            rows[3] = k4;
            rows[4] = e;
        }

        private void backward() {
            double[] y = from(x, h, rows[0]);
            for (int times = 0; times < 6; times++) {
                rows[1] = f(t + h, y);
                double[] w = from(x, h, rows[1]);
                gap = 0;
                for (int i = 0; i < n; i++) gap += w[i] != y[i] ? 1 : 0;
                y = w;
            }
            rows[5] = y;
        }

        private void leap() {
            double[] y = x.clone();
            for (int i = n / 2; i < n; i++) y[i] = put(i, x[i] + g * rows[0][i]);
            rows[1] = f(t + g, y);
            double[] z = y.clone();
            for (int i = 0; i < n / 2; i++) z[i] = put(i, x[i] + h * rows[1][i]);
            rows[2] = f(t + h, z);
            for (int i = n / 2; i < n; i++) z[i] = put(i, y[i] + g * rows[2][i]);
            rows[5] = z;
        }
    }

    /** The LAW of Written, and a RUN of it whose numbers have all their bits. */
    private static MotionStepper writtenDesk(int n, int narrow) {
        LawMaker law = new LawMaker(new MotionStepper(), n, narrow);
        int time = law.time();
        int[] states = new int[n];
        for (int i = 0; i < n; i++) {
            states[i] = law.state(i);
        }
        for (int i = 0; i < n; i++) {
            int product = law.node(4, states[(i + 1) % n], states[i], 0);
            law.side(i, law.node(3, product, law.node(5, time, law.constant(3 + i, 0), 0), 0));
        }
        law.run(1234567891, 30);
        for (int i = 0; i < n; i++) {
            law.desk.set(0, i, (i % 2 == 0 ? 1 : -1) * (987654321 + 123456789L * i), 30);
        }
        return law.desk;
    }

    private static double number(long bits) {
        return Double.longBitsToDouble(bits);
    }

    private static void written(int method) {
        int[] numbers = method == 6 ? new int[] {2, 4, 6} : new int[] {1, 2, 3, 6};
        long[] lengths = {134217729, -44739243, 1 << 27, 333333333};
        for (int n : numbers) {
            int[] narrows = {0, (1 << n) - 1, 1};
            for (int narrow : narrows) {
                MotionStepper x = writtenDesk(n, narrow);
                x.method(0, method);
                x.tolerance(0, Long.MAX_VALUE, 0, 0);
                for (long length : lengths) {
                    x.length(0, length, 30);
                    dueWritten(x, n, narrow, method);
                }
            }
        }
    }

    private static void dueWritten(MotionStepper x, int n, int narrow, int method) {
        double t = number(x.clock(0, 0)), h = number(x.clock(0, 1));
        double[] states = new double[n];
        for (int i = 0; i < n; i++) {
            states[i] = number(x.state(0, i));
        }
        Written want = new Written(narrow, method, t, states, h);
        Edges.due("step", x.step(0), 0);
        Edges.dueNumber("time", x.clock(0, 0), t + h);
        Edges.due("GAP", x.count(0, 4), want.gap);
        for (int i = 0; i < n; i++) {
            Edges.dueNumber("state " + i + " of " + n, x.state(0, i), want.rows[5][i]);
            for (int j = 1; j <= 5; j++) {
                double[] row = want.rows[j - 1];
                Edges.due("k" + j + " of " + i, x.stage(0, j, i),
                    row == null ? NONE : Double.doubleToLongBits(row[i]));
            }
        }
    }

    // ---- rows

    /** SIDES by state and time, one of them that of two VARIABLES; k1 is what value() tells ahead. */
    private static void rowOfSides() {
        LawMaker law = new LawMaker(new MotionStepper(), 6, 0);
        int time = law.time();
        int[] sides = {law.state(5), law.constant(-3, 1), time, law.node(4, law.state(1), time, 0),
            law.node(6, law.state(4), 0, 0), law.constant(0, 0)};
        sides[5] = sides[3];
        for (int i = 0; i < 6; i++) {
            law.side(i, sides[i]);
        }
        law.run(3, 0);
        MotionStepper x = law.desk;
        for (int m = 0; m <= 6; m++) {
            x.method(0, m);
            x.length(0, 1, 4);
            x.tolerance(0, Long.MAX_VALUE, 0, 0);
            for (int i = 0; i < 6; i++) {
                x.set(0, i, 7 * i - 11, 2);
            }
            long[] ahead = new long[6];
            for (int i = 0; i < 6; i++) {
                ahead[i] = x.value(0, sides[i]);
            }
            double t = number(x.clock(0, 0));
            double[] want = {24 / 4.0, -1.5, t, -t, -17 / 4.0, -t};
            Edges.due("step", x.step(0), 0);
            for (int i = 0; i < 6; i++) {
                Edges.dueNumber("METHOD " + m + ", f of " + i, x.stage(0, 1, i), want[i]);
                Edges.due("METHOD " + m + ", the side of " + i, x.stage(0, 1, i), ahead[i]);
            }
        }
    }

    /** xi' = t - c * xi: a LAW of three such VARIABLES does what three LAWS of one do. */
    private static void variableByVariable() {
        long[] factors = {1, -3, 5};
        for (int m = 0; m < 6; m++) {
            MotionStepper beside = apart(factors, m);
            for (int i = 0; i < 3; i++) {
                MotionStepper alone = apart(new long[] {factors[i]}, m);
                Edges.due("METHOD " + m + ", state " + i, beside.state(0, i), alone.state(0, 0));
                for (int j = 1; j <= 5; j++) {
                    Edges.due("METHOD " + m + ", k" + j + " of " + i, beside.stage(0, j, i),
                        alone.stage(0, j, 0));
                }
            }
        }
    }

    /** Behind three steps from time 1; where a VARIABLE begins goes by its factor. */
    private static MotionStepper apart(long[] factors, int method) {
        LawMaker law = new LawMaker(new MotionStepper(), factors.length, 0);
        int time = law.time();
        for (int i = 0; i < factors.length; i++) {
            int part = law.node(4, law.constant(factors[i], 3), law.state(i), 0);
            law.side(i, law.node(3, time, part, 0));
        }
        law.run(1, 0);
        MotionStepper x = law.desk;
        x.method(0, method);
        // So large that each step is TAKEN; the LENGTH then grows alike for all.
        x.tolerance(0, Long.MAX_VALUE, 0, 0);
        for (int i = 0; i < factors.length; i++) {
            x.set(0, i, 5 - 2 * factors[i], 1);
        }
        for (int round = 0; round < 3; round++) {
            Edges.due("step", x.step(0), 0);
        }
        return x;
    }

    /** x' = x from 1 in a NARROW VARIABLE: each k behind k1 is a state that was put, so a float. */
    private static void whatIsPut() {
        for (int m = 0; m < 6; m++) {
            LawMaker law = new LawMaker(new MotionStepper(), 1, 1);
            law.side(0, law.state(0));
            law.run(0, 0);
            MotionStepper x = law.desk;
            x.set(0, 0, 1, 0);
            x.method(0, m);
            x.tolerance(0, Long.MAX_VALUE, 0, 0);
            for (int round = 0; round < 4; round++) {
                long ahead = x.state(0, 0);
                x.length(0, 11184811, 25);
                Edges.due("step", x.step(0), 0);
                Edges.due("k1 is the state", x.stage(0, 1, 0), ahead);
                for (int j = 1; j <= STAGES[m]; j++) {
                    dueFloat("METHOD " + m + ", k" + j, number(x.stage(0, j, 0)));
                }
                dueFloat("METHOD " + m + ", state", number(x.state(0, 0)));
            }
            if (m == 0) {
                float put = 1;
                for (int round = 0; round < 4; round++) {
                    put = (float) (put + 11184811 * 0x1p-25 * put);
                }
                Edges.dueNumber("made of what was put", x.state(0, 0), put);
            }
        }
    }

    private static final int[] STAGES = {1, 2, 3, 4, 4, 2, 3};

    private static void dueFloat(String what, double a) {
        Edges.dueNumber(what + " is a float", Double.doubleToLongBits(a), (float) a);
    }

    /** x' = 1/3 in a NARROW VARIABLE: no k is put, nor is e; the state is. */
    private static void rowsOfValues() {
        for (int m = 0; m <= 6; m++) {
            LawMaker law = new LawMaker(new MotionStepper(), 2, 3);
            int third = law.node(5, law.constant(1, 0), law.constant(3, 0), 0);
            law.side(0, third).side(1, third);
            law.run(0, 0);
            MotionStepper x = law.desk;
            x.method(0, m);
            x.length(0, 1, 0);
            Edges.due("step", x.step(0), 0);
            for (int j = 1; j <= STAGES[m]; j++) {
                for (int i = 0; i < 2; i++) {
                    Edges.dueNumber("METHOD " + m + ", k" + j + " of " + i, x.stage(0, j, i), 1 / 3.0);
                }
            }
            dueFloat("METHOD " + m + ", state", number(x.state(0, 0)));
        }
        // An e that is no float: x' jumps to 1/3 at time 1.
        LawMaker law = new LawMaker(new MotionStepper(), 1, 1);
        int third = law.node(5, law.constant(1, 0), law.constant(3, 0), 0);
        law.side(0, law.below(law.time(), 1, law.constant(0, 0), third));
        law.run(0, 0);
        law.desk.method(0, 4);
        law.desk.length(0, 1, 0);
        law.desk.tolerance(0, 1, 0, 0);
        Edges.due("step", law.desk.step(0), 0);
        double e = (1.0 / 72) * (0.0 - 9 * (1 / 3.0));
        Edges.dueTrue("e is no float", e != (float) e);
        Edges.dueNumber("e", law.desk.stage(0, 5, 0), e);
    }

    /** x' = t tells at which times the k are. */
    private static void lengthAndHalf() {
        // In parts of h: t, t + g, t + d, t + h, as the METHODS have them.
        double[][] parts = {{0}, {0, 0.5}, {0, 0.5, 1}, {0, 0.5, 0.5, 1}, {0, 0.5, 0.75, 1}, {0, 1}, {0, 0.5, 1}};
        long[] lengths = {8, -8, 4096};
        for (int m = 0; m <= 6; m++) {
            for (long n : lengths) {
                LawMaker law = new LawMaker(new MotionStepper(), 2, 0);
                int time = law.time();
                law.side(0, time).side(1, time);
                law.run(3, 0);
                MotionStepper x = law.desk;
                x.method(0, m);
                x.length(0, n, 2);
                x.tolerance(0, Long.MAX_VALUE, 0, 0);
                Edges.due("step", x.step(0), 0);
                double h = n / 4.0;
                Edges.dueNumber("h is the LENGTH", x.clock(0, 3), h);
                for (int j = 1; j <= parts[m].length; j++) {
                    Edges.dueNumber("METHOD " + m + ", time of k" + j, x.stage(0, j, 1), 3 + h * parts[m][j - 1]);
                }
                // A CUT one goes by its own h.
                x.length(0, n, 2);
                Edges.due("CUT", x.to(0, 4 * 3 + n + n / 2, 2, 9), 1);
                Edges.dueNumber("h", x.clock(0, 3), h / 2);
                for (int j = 1; j <= parts[m].length; j++) {
                    Edges.dueNumber("METHOD " + m + ", CUT, time of k" + j, x.stage(0, j, 1),
                        3 + h + h / 2 * parts[m][j - 1]);
                }
            }
        }
        // One made anew goes by the h that it has then.
        MotionStepper x = nine(9, 3);
        Edges.due("REJECTED", x.step(0), 1);
        Edges.dueNumber("h", x.clock(0, 3), 0.5);
        Edges.dueNumber("t + h", x.clock(0, 0), 0.5);
    }

    // ---- LEAP

    private static void placesAndSpeeds() {
        for (int n = 2; n <= 6; n += 2) {
            int half = n / 2;
            LawMaker law = new LawMaker(new MotionStepper(), n, 0);
            int time = law.time();
            for (int i = 0; i < n; i++) {
                int other = law.state((i + half) % n);
                law.side(i, i < half ? other : law.node(3, time, other, 0));
            }
            MotionStepper x = law.desk;
            law.run(1, 0);
            x.length(0, 3, 3);
            x.method(0, 6);
            for (int i = 0; i < n; i++) {
                x.set(0, i, 3 + i * i, 0);
            }
            Edges.due("step", x.step(0), 0);
            double h = 0.375, g = h / 2;
            for (int i = 0; i < half; i++) {
                double place = 3 + i * i, speed = 3 + (i + half) * (i + half);
                double middle = speed + g * (1.0 - place);
                double there = place + h * middle;
                Edges.dueNumber("place " + i + " of " + n, x.state(0, i), there);
                double then = middle + g * ((1.0 + h) - there);
                Edges.dueNumber("speed " + i + " of " + n, x.state(0, i + half), then);
            }
        }
    }

    /** SIDES by time, at 0, 0.5 and 1, of a place and a speed. */
    private static MotionStepper leap(double[] places, double[] speeds) {
        double[] limits = {0.25, 0.75};
        LawMaker law = new LawMaker(new MotionStepper(), 2, 0);
        int time = law.time();
        law.side(0, law.table(time, limits, places)).side(1, law.table(time, limits, speeds));
        law.run(0, 0);
        law.desk.length(0, 1, 0);
        law.desk.method(0, 6);
        return law.desk;
    }

    private static void otherSides() {
        MotionStepper x = leap(new double[] {7, 10, -9}, new double[] {2, 55, 4});
        Edges.due("step", x.step(0), 0);
        Edges.dueNumber("place: k2 alone", x.state(0, 0), 10.0);
        Edges.dueNumber("speed: k1 and k3", x.state(0, 1), 3.0);
        for (double a : NOT_FINITE) {
            Edges.due("k1 of a place", leap(new double[] {a, 0, 0}, new double[] {0, 0, 0}).step(0), WILD);
            Edges.due("k2 of a speed", leap(new double[] {0, 0, 0}, new double[] {0, a, 0}).step(0), WILD);
            Edges.due("k3 of a place", leap(new double[] {0, 0, a}, new double[] {0, 0, 0}).step(0), WILD);
        }
        double[] great = {GREATEST, 0, -GREATEST};
        Edges.due("the greatest", leap(great, new double[] {0, GREATEST, 0}).step(0), 0);
    }

    // ---- BACKWARD

    /** x' = the least of x + 1 and a limit: by steps of 1 from 0 y goes 1, 2, 3, .. */
    private static void sixTimes() {
        MotionStepper x = counting(1000);
        Edges.due("step", x.step(0), 0);
        Edges.dueNumber("1, and six more", x.state(0, 0), 7.0);
        Edges.dueNumber("k2 is f of 6", x.stage(0, 2, 0), 7.0);
        Edges.dueNumber("k1 is f of 0", x.stage(0, 1, 0), 1.0);
        Edges.dueNumber("time", x.clock(0, 0), 1.0);
    }

    private static MotionStepper counting(long... limits) {
        LawMaker law = new LawMaker(new MotionStepper(), limits.length, 0);
        int one = law.constant(1, 0);
        for (int i = 0; i < limits.length; i++) {
            int more = law.node(2, law.state(i), one, 0);
            law.side(i, law.node(8, more, law.constant(limits[i], 0), 0));
        }
        law.run(0, 0);
        law.desk.length(0, 1, 0);
        law.desk.method(0, 5);
        return law.desk;
    }

    private static void gapByValue() {
        int[] wanted = {0, 1, 2, 3, 4, 5, 6};
        for (int want : wanted) {
            long[] limits = {3, 3, 3, 3, 3, 3};
            for (int i = 0; i < want; i++) {
                limits[i] = 100;
            }
            MotionStepper x = counting(limits);
            x.step(0);
            Edges.due("GAP", x.count(0, 4), want);
        }
        // x' = -x from -0.0: y is 0.0 and -0.0 by turns, which are alike by value.
        LawMaker law = new LawMaker(new MotionStepper(), 1, 0);
        law.side(0, law.node(6, law.state(0), 0, 0));
        int above = law.node(3, law.time(), law.constant(1, 0), 0);
        law.run(0, 0);
        MotionStepper x = law.desk;
        x.set(0, 0, -1, 0);
        x.length(0, 1, 0);
        x.event(0, above, 1, 2, 0);
        x.step(0);
        Edges.dueNumber("-0.0", x.state(0, 0), -0.0);
        x.method(0, 5);
        x.step(0);
        Edges.dueNumber("k2 goes by turns", x.stage(0, 2, 0), 0.0);
        Edges.dueNumber("the sixth", x.state(0, 0), 0.0);
        Edges.due("0.0 and -0.0 are alike", x.count(0, 4), 0);
    }

    private static void gapOfSixth() {
        // The fifth time puts 6 in place of 5, the sixth one 7 in place of 6.
        long[] limits = {5, 6, 7, 8};
        int[] gaps = {0, 0, 1, 1};
        for (int i = 0; i < limits.length; i++) {
            MotionStepper x = counting(limits[i]);
            x.step(0);
            Edges.due("GAP up to " + limits[i], x.count(0, 4), gaps[i]);
            Edges.dueNumber("state", x.state(0, 0), Math.min(limits[i], 7));
        }
    }

    private static void allSix() {
        // f(j) is not FINITE, f of that goes on behind j: only the k2 of that time tells of it.
        for (int j = 0; j <= 7; j++) {
            for (double a : NOT_FINITE) {
                LawMaker law = new LawMaker(new MotionStepper(), 1, 0);
                int state = law.state(0);
                int next = law.node(2, state, law.constant(1, 0), 0);
                int onward = law.number(j + 2);
                int there = law.below(state, j + 0.5, law.number(a), next);
                there = law.below(state, j - 0.5, next, there);
                // Infinities and what is none: x below -1, above 100, or not a number.
                int inside = law.below(state, 100, there, onward);
                law.side(0, law.below(state, -1, onward, inside));
                law.run(0, 0);
                law.desk.length(0, 1, 0);
                law.desk.method(0, 5);
                Edges.due("k at " + j + " is " + a, law.desk.step(0), j <= 6 ? WILD : 0);
            }
        }
        // Put: y and each w are floats.
        MotionStepper x = Desks.swing(3);
        x.method(0, 5);
        x.length(0, 11, 5);
        x.step(0);
        double h = 11 / 32.0;
        float[] y = {(float) (3 + h * 2), (float) (2 + h * -2)};
        for (int times = 0; times < 6; times++) {
            y = new float[] {(float) (3 + h * y[1]), (float) (2 + h * ((1 + h) - y[0]))};
        }
        Edges.dueNumber("put 0", x.state(0, 0), y[0]);
        Edges.dueNumber("put 1", x.state(0, 1), y[1]);
    }

    // ---- WILD

    private static void newTime() {
        LawMaker law = new LawMaker(new MotionStepper(), 1, 0);
        law.side(0, law.constant(1, 0));
        law.run(1L << 53, 0);
        MotionStepper x = law.desk;
        x.length(0, 1, 0);
        Edges.due("step", x.step(0), 0);
        Edges.dueNumber("2^53 + 1 is 2^53", x.clock(0, 0), 0x1p53);
        Edges.dueNumber("the state went on", x.state(0, 0), 1.0);
        x.length(0, 3, 0);
        x.step(0);
        Edges.dueNumber("2^53 + 3 is 2^53 + 4", x.clock(0, 0), 0x1p53 + 4);
        x.length(0, -1024, 0);
        x.step(0);
        Edges.dueNumber("back", x.clock(0, 0), 0x1p53 - 1020);
    }

    private static void wildStages() {
        double[] limits = {0.25, 0.6, 0.9};
        double[] times = {0, 0.5, 0.75, 1};
        // At which of these times a METHOD's k are, for a step of 1 from 0.
        boolean[][] looked = {
            {true, false, false, false}, {true, true, false, false}, {true, true, false, true},
            {true, true, false, true}, {true, true, true, true}, {true, false, false, true}};
        for (int m = 0; m < looked.length; m++) {
            for (int i = 0; i < 4; i++) {
                for (double a : NOT_FINITE) {
                    double[] values = {1, 1, 1, 1};
                    values[i] = a;
                    MotionStepper x = byTime(m, limits, values);
                    x.tolerance(0, 1, 0, 0);
                    Edges.due("METHOD " + m + ", " + a + " at " + times[i], x.step(0),
                        looked[m][i] ? WILD : 0);
                }
            }
        }
        wildByState();
        // One of several VARIABLES is enough, whichever it is.
        for (int i = 0; i < 6; i++) {
            LawMaker law = new LawMaker(new MotionStepper(), 6, 0);
            int one = law.constant(1, 0);
            int none = law.number(NAN);
            for (int j = 0; j < 6; j++) {
                law.side(j, j == i ? none : one);
            }
            law.run(0, 0);
            Edges.due("variable " + i, law.desk.step(0), WILD);
        }
    }

    /** One k alone is not FINITE, by the state that it is at: each k from 0 by 1 is at one of its own. */
    private static void wildByState() {
        double[] limits = {0.5, 2, 7};
        int[] methods = {1, 2, 3, 4};
        double[][] values = {{2, 6, 0, 1}, {2, 6, 0, 1}, {2, 6, 10, 1}, {2, 6, 16, 1}};
        // Which of the values each k is.
        int[][] places = {{0, 1}, {0, 1, 3}, {0, 1, 2, 3}, {0, 1, 2, 3}};
        for (int c = 0; c < methods.length; c++) {
            MotionStepper x = byState(methods[c], limits, values[c]);
            x.tolerance(0, Long.MAX_VALUE, 0, 0);
            Edges.due("all are FINITE", x.step(0), 0);
            for (int j = 0; j < places[c].length; j++) {
                String what = "METHOD " + methods[c] + ", k" + (j + 1);
                Edges.dueNumber(what, x.stage(0, j + 1, 0), values[c][places[c][j]]);
                for (double a : NOT_FINITE) {
                    double[] others = values[c].clone();
                    others[places[c][j]] = a;
                    MotionStepper y = byState(methods[c], limits, others);
                    y.tolerance(0, Long.MAX_VALUE, 0, 0);
                    Edges.due(what + " is " + a, y.step(0), WILD);
                    Edges.due("none TAKEN", y.count(0, 2), 0);
                }
            }
        }
    }

    private static void wildEnds() {
        // All k are 2^1000 or 2^1014; the state becomes 2^1010, or would become 2^1024.
        for (int m = 0; m < 6; m++) {
            MotionStepper x = byTime(m, new double[0], new double[] {0x1p1000});
            x.length(0, 1024, 0);
            x.tolerance(0, Long.MAX_VALUE, Long.MAX_VALUE, 0);
            Edges.due("METHOD " + m + " to 2^1010", x.step(0), 0);
            MotionStepper y = byTime(m, new double[0], new double[] {0x1p1014});
            y.length(0, 1024, 0);
            Edges.due("METHOD " + m + " to 2^1024", y.step(0), WILD);
        }
        MotionStepper x = byTime(0, new double[] {0.5, 1.5}, new double[] {GREATEST, 0x1p969, 0x1p970});
        Edges.due("to the greatest", x.step(0), 0);
        Edges.due("no further, by rounding", x.step(0), 0);
        Edges.dueNumber("the greatest", x.state(0, 0), GREATEST);
        Edges.due("beyond it", x.step(0), WILD);
        Edges.dueNumber("it is as it was", x.state(0, 0), GREATEST);
        // k3 is at 0.75: 4 * k3 is FINITE, 8 * k3 is or isn't.
        double[] limits = {0.6, 0.9};
        MotionStepper y = byTime(4, limits, new double[] {0, 0x1p1020, 0});
        Edges.due("e is FINITE, and REJECTED", y.step(0), 1);
        MotionStepper z = byTime(4, limits, new double[] {0, 0x1p1021, 0});
        z.tolerance(0, Long.MAX_VALUE, Long.MAX_VALUE, 0);
        Edges.due("e is infinite", z.step(0), WILD);
        MotionStepper w = byTime(4, new double[] {0.25, 0.6, 0.9}, new double[] {0, 0x1p1022, 0, 0x1p1022});
        Edges.due("e is none", w.step(0), WILD);
        // What is made on the way may be infinite.
        MotionStepper v = byState(1, new double[] {0.5}, new double[] {GREATEST, 1});
        v.length(0, 1024, 0);
        Edges.due("y is infinite", v.step(0), 0);
        Edges.dueNumber("k2 is f of that", v.state(0, 0), 1024.0);
        // Too large for a float.
        LawMaker law = new LawMaker(new MotionStepper(), 1, 1);
        law.side(0, law.number(0x1.ffffffp127));
        law.run(0, 0);
        law.desk.length(0, 1, 0);
        Edges.due("no float", law.desk.step(0), WILD);
    }

    // ---- the control of a PAIR

    private static void ratio() {
        // All k are 9, and k4 is 81: the new state is 9 more than the old one, e is -9.
        long[] states = {5, -20, -4, -5, 0, -9};
        double[] greater = {14, 20, 5, 5, 9, 9};
        double[][] tolerances = {{16, 0}, {16, 1}, {16, 0.5}, {0.5, 2}};
        for (int i = 0; i < states.length; i++) {
            for (double[] pair : tolerances) {
                MotionStepper x = byTime(4, new double[] {1.0}, new double[] {9, 81});
                x.set(0, 0, states[i], 0);
                x.tolerance(0, (long) (pair[0] * 2), (long) (pair[1] * 2), 1);
                Edges.due("step", x.step(0), 0);
                Edges.dueNumber("new state", x.state(0, 0), states[i] + 9.0);
                Edges.dueNumber("e", x.stage(0, 5, 0), -9.0);
                Edges.dueNumber("RATIO", x.clock(0, 2), 9.0 / (pair[0] + pair[1] * greater[i]));
            }
        }
    }

    private static void greatestRatio() {
        // e of each of three VARIABLES is -9 or 9, 18, 0: the greatest is first, in the middle, last.
        double[][] jumps = {{144, 72, 0}, {-72, -144, 0}, {0, 72, 144}, {0, 0, 0}};
        double[] wanted = {18, 18, 18, 0};
        for (int c = 0; c < jumps.length; c++) {
            LawMaker law = new LawMaker(new MotionStepper(), 3, 0);
            int time = law.time();
            for (int i = 0; i < 3; i++) {
                law.side(i, law.table(time, new double[] {1.0}, new double[] {0, jumps[c][i]}));
            }
            law.run(0, 0);
            MotionStepper x = law.desk;
            x.length(0, 1, 0);
            x.method(0, 4);
            x.tolerance(0, 64, 0, 0);
            Edges.due("step", x.step(0), 0);
            Edges.dueNumber("ERROR", x.clock(0, 2), wanted[c] / 64);
        }
    }

    private static void takenOrRejected() {
        MotionStepper x = nine(9, 0);
        Edges.due("an ERROR of 1", x.step(0), 0);
        Edges.dueNumber("ERROR", x.clock(0, 2), 1.0);
        Edges.dueNumber("time", x.clock(0, 0), 1.0);
        Edges.due("rejected", x.count(0, 3), 0);
        Edges.dueTrue("more than 1", 9.0 / (9.0 - 0x1p-30) > 1.0);
        MotionStepper y = nine(9 * UNIT - 1, 30);
        Edges.due("an ERROR above 1", y.step(0), 1);
        Edges.dueNumber("ERROR of the one that was TAKEN", y.clock(0, 2), 0.0);
        Edges.dueNumber("time", y.clock(0, 0), 0.5);
        Edges.due("rejected", y.count(0, 3), 1);
        Edges.due("taken", y.count(0, 2), 1);
        MotionStepper z = nine(9 * UNIT + 1, 30);
        Edges.due("an ERROR below 1", z.step(0), 0);
    }

    private static void halfOrQuarter() {
        MotionStepper x = nine(9, 3);
        Edges.due("an ERROR of 8", x.step(0), 1);
        Edges.dueNumber("half", x.clock(0, 3), 0.5);
        Edges.dueNumber("half", x.clock(0, 1), 0.5);
        Edges.dueTrue("more than 8", 9.0 / (1.125 - 0x1p-30) > 8.0);
        MotionStepper y = nine(9 * (UNIT / 8) - 1, 30);
        Edges.due("an ERROR above 8", y.step(0), 1);
        Edges.dueNumber("a quarter", y.clock(0, 3), 0.25);
        Edges.dueNumber("a quarter", y.clock(0, 1), 0.25);
        // An infinite ERROR is above 8.
        MotionStepper z = byTime(4, new double[] {0.6, 0.9}, new double[] {0, 0x1p1020, 0});
        z.tolerance(0, 1, 0, 30);
        Edges.due("an infinite ERROR", z.step(0), 1);
        Edges.dueNumber("a quarter", z.clock(0, 1), 0.25);
        // Half, by what is at 1, then a quarter of that, by what is at 0.25.
        MotionStepper w = byTime(4, new double[] {0.2, 0.3, 0.9}, new double[] {0, 2160, 0, 72});
        w.tolerance(0, 9, 0, 3);
        Edges.due("two of them", w.step(0), 2);
        Edges.dueNumber("an eighth", w.clock(0, 3), 0.125);
        Edges.dueNumber("an eighth", w.clock(0, 1), 0.125);
        Edges.due("rejected", w.count(0, 3), 2);
        // The other way in time.
        MotionStepper u = byTime(4, new double[] {-0.999}, new double[] {72, 0});
        u.length(0, -1, 0);
        u.tolerance(0, 9, 0, 3);
        Edges.due("an ERROR of 8", u.step(0), 1);
        Edges.dueNumber("half, with its sign", u.clock(0, 1), -0.5);
    }

    private static void growth() {
        long[] tolerances = {576 * UNIT, 576 * UNIT - 1, 72 * UNIT, 72 * UNIT - 1, 9 * UNIT};
        double[] behind = {4, 2, 2, 1, 1};
        Edges.dueTrue("more than 1/64", 9.0 / (576 - 0x1p-30) > 1 / 64.0);
        Edges.dueTrue("more than 1/8", 9.0 / (72 - 0x1p-30) > 1 / 8.0);
        for (int i = 0; i < tolerances.length; i++) {
            MotionStepper x = nine(tolerances[i], 30);
            Edges.due("step", x.step(0), 0);
            Edges.dueNumber("ERROR", x.clock(0, 2), 9.0 / (tolerances[i] * 0x1p-30));
            Edges.dueNumber("behind " + tolerances[i], x.clock(0, 1), behind[i]);
            Edges.dueNumber("h", x.clock(0, 3), 1.0);
        }
        MotionStepper y = Desks.climb();
        y.method(0, 4);
        y.length(0, -3, 3);
        y.step(0);
        Edges.dueNumber("an ERROR of 0.0, with its sign", y.clock(0, 1), -1.5);
    }

    private static void behindRejected() {
        MotionStepper x = nine(9 * UNIT - 1, 30);
        x.step(0);
        Edges.dueNumber("an ERROR of 0.0", x.clock(0, 2), 0.0);
        Edges.dueNumber("the LENGTH stays", x.clock(0, 1), 0.5);
        // x' jumps at 1, where the next step ends.
        x.tolerance(0, 9, 0, 0);
        Edges.due("the next one is TAKEN", x.step(0), 0);
        Edges.dueNumber("ERROR", x.clock(0, 2), 0.5);
        Edges.dueNumber("the LENGTH is h", x.clock(0, 1), 0.5);
        x.step(0);
        Edges.dueNumber("and grows again", x.clock(0, 1), 2.0);
    }

    private static void longest() {
        long[] lengths = {255, 256, 257, 512, 1024};
        double[] behind = {1020, 1024, 1024, 1024, 1024};
        for (int i = 0; i < lengths.length; i++) {
            for (int sign = -1; sign <= 1; sign += 2) {
                MotionStepper x = Desks.climb();
                x.method(0, 4);
                x.length(0, sign * lengths[i], 0);
                Edges.due("step", x.step(0), 0);
                Edges.dueNumber("4 * " + lengths[i], x.clock(0, 1), sign * behind[i]);
                Edges.dueNumber("h", x.clock(0, 3), sign * lengths[i]);
            }
        }
        // By 2: an e near -9 again, and an ERROR of about 1/9.
        long[] others = {511, 512, 513};
        double[] behindOthers = {1022, 1024, 1024};
        for (int i = 0; i < others.length; i++) {
            MotionStepper x = byTime(4, new double[] {others[i]}, new double[] {0, 72.0 / 512});
            x.length(0, others[i], 0);
            x.tolerance(0, 81, 0, 0);
            Edges.due("step", x.step(0), 0);
            Edges.dueNumber("2 * " + others[i], x.clock(0, 1), behindOthers[i]);
        }
    }

    /** The first step, of n / 2^30, has about this ERROR; shorter ones have none. */
    private static MotionStepper shortStep(long n, double error) {
        double h = n * 0x1p-30;
        double jump = error * 8 / Math.abs(h);
        LawMaker law = new LawMaker(new MotionStepper(), 1, 0);
        int time = law.time();
        int away = n < 0 ? law.node(6, time, 0, 0) : time;
        law.side(0, law.table(away, new double[] {Math.abs(h)}, new double[] {0, jump}));
        law.run(0, 0);
        law.desk.method(0, 4);
        law.desk.length(0, n, 30);
        law.desk.tolerance(0, 1, 0, 0);
        return law.desk;
    }

    private static void shortest() {
        for (int sign = -1; sign <= 1; sign += 2) {
            MotionStepper x = shortStep(2 * sign, 4);
            Edges.due("half of 2^-29", x.step(0), 1);
            Edges.dueNumber("2^-30", x.clock(0, 1), sign * 0x1p-30);
            MotionStepper y = shortStep(4 * sign, 16);
            Edges.due("a quarter of 2^-28", y.step(0), 1);
            Edges.dueNumber("2^-30", y.clock(0, 1), sign * 0x1p-30);
            dueSmall("half of 2^-30", shortStep(sign, 4), sign * 0x1p-30);
            dueSmall("a quarter of 2^-29", shortStep(2 * sign, 16), sign * 0x1p-29);
            dueSmall("a quarter of 3 * 2^-30", shortStep(3 * sign, 16), sign * 3 * 0x1p-30);
            MotionStepper z = shortStep(3 * sign, 4);
            Edges.due("half of 3 * 2^-30", z.step(0), 1);
            Edges.dueNumber("1.5 * 2^-30", z.clock(0, 1), sign * 1.5 * 0x1p-30);
        }
        MotionStepper w = Desks.climb();
        w.method(0, 4);
        w.length(0, 1, 30);
        Edges.due("2^-30 itself", w.step(0), 0);
    }

    private static void dueSmall(String what, MotionStepper x, double length) {
        Edges.due(what, x.step(0), SMALL);
        Edges.dueNumber("the LENGTH is as it was", x.clock(0, 1), length);
        Edges.due("none TAKEN", x.count(0, 2), 0);
        Edges.due("none REJECTED", x.count(0, 3), 0);
        Edges.dueNumber("the time is as it was", x.clock(0, 0), 0.0);
    }

    private static void twentyFirst() {
        // By halves: x' is 16 / t from the time on, 0 ahead of it; the ERROR is 2 or a little more.
        int[] answers = {18, 19, SMALL};
        for (int i = 0; i < answers.length; i++) {
            LawMaker law = new LawMaker(new MotionStepper(), 1, 0);
            int time = law.time();
            double from = Math.pow(2, -17 - i);
            law.side(0, law.below(time, from, law.constant(0, 0), law.node(5, law.constant(16, 0), time, 0)));
            law.run(0, 0);
            MotionStepper x = law.desk;
            x.method(0, 4);
            x.length(0, 1, 0);
            x.tolerance(0, 1, 0, 0);
            Edges.due("by halves to 2^" + (-18 - i), x.step(0), answers[i]);
            Edges.dueNumber("LENGTH", x.clock(0, 1), answers[i] < 0 ? 1.0 : from / 2);
            Edges.due("rejected", x.count(0, 3), Math.max(0, answers[i]));
        }
        // By quarters: from 1024 the 20th one is 2^-28, and a 21st would be 2^-30, not too small.
        for (int i = 0; i < answers.length; i++) {
            double from = Math.pow(2, -24 - 2 * i);
            MotionStepper x = byTime(4, new double[] {from}, new double[] {0, 0x1p62});
            x.length(0, 1024, 0);
            x.tolerance(0, 1, 0, 30);
            Edges.due("by quarters to 2^" + (-26 - 2 * i), x.step(0), answers[i]);
            Edges.dueNumber("LENGTH", x.clock(0, 1), answers[i] < 0 ? 1024.0 : from / 4);
        }
    }

    private static void otherMethods() {
        for (int m = 0; m < 6; m++) {
            MotionStepper x = Desks.jump();
            x.method(0, m);
            x.length(0, 1, 30);
            Edges.due("METHOD " + m, x.step(0), m == 4 ? SMALL : 0);
            Edges.dueNumber("its LENGTH stays", x.clock(0, 1), 0x1p-30);
            Edges.due("none REJECTED", x.count(0, 3), 0);
        }
    }

    private static void stepAndEvents() {
        // A PAIR of 4 is REJECTED, one of 2 isn't; its EVENTS come at 1 and at 2, where x' begins.
        LawMaker law = new LawMaker(new MotionStepper(), 1, 0);
        int time = law.time();
        int first = law.node(3, time, law.constant(1, 0), 0);
        int second = law.node(3, time, law.constant(2, 0), 0);
        law.side(0, law.table(time, new double[] {4}, new double[] {1, 19}));
        law.run(0, 0);
        MotionStepper x = law.desk;
        x.method(0, 4);
        x.length(0, 4, 0);
        x.tolerance(0, 8, 0, 0);
        x.event(0, second, 1, 2, 0);
        x.event(0, first, 1, 0, 0);
        Edges.due("one REJECTED", x.step(0), 1);
        Edges.dueNumber("h", x.clock(0, 3), 2.0);
        Edges.due("one TAKEN", x.count(0, 2), 1);
        Edges.due("both FIRED", x.count(0, 7), 2);
        Edges.due("the first one", x.fired(0, 0, 0), 1);
        Edges.due("the second one", x.fired(0, 1, 0), 0);
        Edges.dueNumber("its action", x.state(0, 0), -2.0);
        // What would come at 0.75 does not come in a REJECTED step to 1, but in the next one.
        MotionStepper y = nine(9, 3);
        y.constant(0, 3, 2);
        y.node(0, 3, 0, y.many(3) - 1, 0);
        y.event(0, y.many(3) - 1, 1, 1, 0);
        Edges.due("one REJECTED", y.step(0), 1);
        Edges.due("none FIRED", y.count(0, 7), 0);
        Edges.dueNumber("at 0.5", y.clock(0, 0), 0.5);
        y.tolerance(0, 9, 0, 0);
        Edges.due("none REJECTED", y.step(0), 0);
        Edges.due("FIRED at 0.75", y.count(0, 7), 1);
        Edges.dueNumber("when", y.fired(0, 0, 1), 0.75);
    }

    private static void step() {
        MotionStepper x = Desks.climb();
        int[] wrong = {MIN, -1, 1, 3, 4, MAX};
        for (int r : wrong) {
            Edges.due("step of run " + r, x.step(r), NUMBER);
        }
        // x' = 1 / (1 - t), and an EVENT that ENDS it at 1.
        LawMaker law = new LawMaker(new MotionStepper(), 1, 0);
        int one = law.constant(1, 0);
        int rest = law.node(3, one, law.time(), 0);
        law.side(0, law.node(5, one, rest, 0));
        law.run(0, 0);
        MotionStepper y = law.desk;
        y.length(0, 1, 0);
        y.event(0, rest, -1, 1, 0);
        Edges.due("to the pole", y.step(0), 0);
        Edges.due("ended, and a step would be WILD", y.step(0), STATE);
        // Ended, and a step would be REFUSED.
        MotionStepper z = Desks.jump();
        z.method(0, 0);
        z.length(0, -1, 30);
        z.step(0);
        z.length(0, 1, 30);
        z.event(0, 1, 1, 1, 0);
        z.step(0);
        z.method(0, 4);
        Edges.due("ended, and a step would be REFUSED", z.step(0), STATE);
        // Of the steps made the second one is WILD: at 0.25.
        MotionStepper w = byTime(4, new double[] {0.2, 0.3, 0.9}, new double[] {0, INFINITY, 0, 72});
        w.tolerance(0, 9, 0, 3);
        Edges.due("one made anew is WILD", w.step(0), WILD);
        Edges.due("none REJECTED", w.count(0, 3), 0);
        Edges.dueNumber("the LENGTH is as it was", w.clock(0, 1), 1.0);
        w.tolerance(0, 9, 0, 0);
        Edges.due("the first one alone is not", w.step(0), 0);
        MotionStepper v = nine(9, 3);
        Edges.due("one REJECTED", v.step(0), 1);
        v.tolerance(0, 9, 0, 0);
        Edges.due("none REJECTED", v.step(0), 0);
    }

    // ---- halves

    private static void halves() {
        double[] expected = new double[2];
        long[] lengths = {3, -5, 11};
        for (long n : lengths) {
            double h = n / 8.0;
            for (int m = 0; m <= 6; m++) {
                MotionStepper x = Desks.swing(0);
                x.method(0, m);
                x.tolerance(0, Long.MAX_VALUE, 0, 0);
                x.length(0, n, 3);
                x.keep(0, 0);
                x.step(0);
                for (int i = 0; i < 2; i++) {
                    expected[i] = Double.longBitsToDouble(x.state(0, i));
                }
                x.back(0, 0);
                x.length(0, n, 4);
                x.step(0);
                x.length(0, n, 4);
                x.step(0);
                Edges.dueNumber("time", x.clock(0, 0), 1 + h);
                for (int i = 0; i < 2; i++) {
                    expected[i] = Double.longBitsToDouble(x.state(0, i)) - expected[i];
                }
                x.back(0, 0);
                for (int i = 0; i < 2; i++) {
                    Edges.dueNumber("METHOD " + m + " by " + h, x.halves(0, i), expected[i]);
                }
                Edges.dueTrue("they are unlike", expected[1] != 0.0);
            }
        }
        // The difference is not put: x' is 2^-11 at 0, 2^30 behind it.
        LawMaker law = new LawMaker(new MotionStepper(), 1, 1);
        law.side(0, law.table(law.state(0), new double[] {0x1p-12}, new double[] {0x1p-11, 0x1p30}));
        law.run(0, 0);
        law.desk.length(0, 2, 0);
        Edges.dueNumber("no float", law.desk.halves(0, 0), 0x1p30 - 0x1p-10);
        // It may be an infinity.
        MotionStepper y = byState(0, new double[] {-1}, new double[] {GREATEST, -0x1p1022});
        y.length(0, 2, 0);
        Edges.dueNumber("too large", y.halves(0, 0), INFINITY);
        MotionStepper z = byState(0, new double[] {1}, new double[] {0x1p1022, -GREATEST});
        z.length(0, 2, 0);
        Edges.dueNumber("too large", z.halves(0, 0), -INFINITY);
        // Half of the least LENGTH.
        MotionStepper w = Desks.decay();
        w.length(0, 1, 30);
        double half = (1 - 0x1p-31) + 0x1p-31 * -(1 - 0x1p-31);
        Edges.dueNumber("by 2^-31", w.halves(0, 0), half - (1 - 0x1p-30));
    }

    private static void halvesAlone() {
        // A PAIR that is REJECTED, one that is REFUSED: no control looks at them.
        MotionStepper x = nine(9, 3);
        Edges.dueNumber("REJECTED otherwise", x.halves(0, 0), 0.0);
        Edges.dueNumber("its LENGTH stays", x.clock(0, 1), 1.0);
        MotionStepper y = Desks.jump();
        Edges.due("REFUSED otherwise", y.step(0), SMALL);
        Edges.dueTrue("it has halves", y.halves(0, 0) != NONE);
        Edges.Maker maker = () -> {
            MotionStepper z = Desks.climb();
            z.event(0, 3, 1, 1, 0);
            z.event(0, 3, 1, 2, 0);
            z.length(0, 3, 2);
            z.step(0);
            z.keep(0, 0);
            return z;
        };
        Edges.dueUnchanged("halves", maker, z -> z.halves(0, 0), 0);
        Edges.Maker pair = () -> {
            MotionStepper z = Desks.swing(0);
            z.method(0, 4);
            z.step(0);
            return z;
        };
        Edges.dueUnchanged("halves of a PAIR", pair, z -> z.halves(0, 1) == NONE ? 1 : 0, 0);
    }

    private static void noHalves() {
        MotionStepper x = Desks.swing(0);
        int[] runs = {MIN, -1, 1, 3, 4, MAX};
        for (int r : runs) {
            Edges.due("halves of run " + r, x.halves(r, 0), NONE);
        }
        int[] variables = {MIN, -1, 2, 5, 6, MAX};
        for (int i : variables) {
            Edges.due("halves of variable " + i, x.halves(0, i), NONE);
        }
        Edges.dueTrue("halves of the last variable", x.halves(0, 1) != NONE);
        MotionStepper y = Desks.climb();
        y.event(0, 3, 1, 1, 0);
        Edges.dueNumber("not ended yet", y.halves(0, 0), 0.0);
        y.step(0);
        Edges.due("ended", y.halves(0, 0), NONE);
        // MIDDLE: the whole one looks at 0 and 0.5, the halves at 0, 0.25, 0.5 and 0.75.
        double[] limits = {0.1, 0.3, 0.6, 0.8};
        for (int i = 0; i < 5; i++) {
            double[] values = {1, 1, 1, 1, 1};
            values[i] = INFINITY;
            MotionStepper z = byTime(1, limits, values);
            Edges.due("WILD at part " + i, z.halves(0, 0) == NONE ? 1 : 0, i < 4 ? 1 : 0);
        }
        // The whole one alone: its y is 0.5, where x' is infinite; the halves are at 0.25, 5 and 5.5.
        MotionStepper w = byState(1, new double[] {0.1, 0.3, 1}, new double[] {1, 10, INFINITY, 2});
        Edges.due("the whole one is WILD", w.step(0), WILD);
        Edges.due("no halves", w.halves(0, 0), NONE);
        w.length(0, 1, 1);
        Edges.due("the first half isn't", w.step(0), 0);
        Edges.due("the second half isn't", w.step(0), 0);
    }
}
