/** A desk where motions are stepped through time; shared/DOC.md numbers what it promises. */
public final class MotionStepper {
    public static final int NUMBER = -1;
    public static final int STATE = -2;
    public static final int FULL = -3;
    public static final int WILD = -4;
    public static final int SMALL = -5;
    public static final long NONE = 0x7FF8000000000000L;

    private static final int MOST_LAWS = 8;
    private static final int MOST_VARIABLES = 6;
    private static final int MOST_NODES = 48;
    private static final int MOST_SIGNALS = 8;
    private static final int MOST_POINTS = 16;
    private static final int MOST_RUNS = 4;
    private static final int MOST_EVENTS = 4;
    private static final int MOST_FIRED = 64;
    private static final int MOST_TAKEN = 200;
    private static final int MOST_MADE = 20;
    private static final int PLACES_KEPT = 4;
    /** The place behind those of keep(): what a RUN was ahead of to(). */
    private static final int PLACE_OF_TO = 4;
    private static final int HIGHEST_K = 30;

    private static final int KIND_STATE = 0;
    private static final int KIND_TIME = 1;
    private static final int KIND_SUM = 2;
    private static final int KIND_DIFFERENCE = 3;
    private static final int KIND_PRODUCT = 4;
    private static final int KIND_QUOTIENT = 5;
    private static final int KIND_NEGATED = 6;
    private static final int KIND_SIZE = 7;
    private static final int KIND_LEAST = 8;
    private static final int KIND_GREATEST = 9;
    private static final int KIND_CHOICE = 10;
    private static final int KIND_POWER = 11;
    private static final int KIND_SIGNAL = 12;
    /** No kind of node(): CONSTANTS come by constant() alone. */
    private static final int KIND_CONSTANT = 13;
    private static final int HIGHEST_POWER = 9;

    private static final int PLAIN = 0;
    private static final int MIDDLE = 1;
    private static final int THIRD = 2;
    private static final int FOURTH = 3;
    private static final int PAIR = 4;
    private static final int BACKWARD = 5;
    private static final int LEAP = 6;
    /** How many k each METHOD has. */
    private static final int[] STAGES = {1, 2, 3, 4, 4, 2, 3};
    private static final int STAGE_OF_E = 5;

    private static final int ACTION_END = 1;
    private static final int ACTION_NEGATE = 2;
    private static final int MOST_ACTION = 3;

    private final Reckoner reckoner;
    private final Teller teller;
    private final Law[] laws;
    private int lawCount;
    private final Signal[] signals;
    private int signalCount;
    private final Run[] runs;
    private int runCount;
    private final Run[] kept;
    /** Where steps are made: a RUN's own latest step changes only when one is TAKEN. */
    private final Step trial;
    private final Step firstHalf;

    public MotionStepper() {
        reckoner = new Reckoner();
        teller = new Teller();
        laws = new Law[MOST_LAWS];
        signals = new Signal[MOST_SIGNALS];
        runs = new Run[MOST_RUNS];
        kept = new Run[PLACES_KEPT + 1];
        trial = new Step(reckoner);
        firstHalf = new Step(reckoner);
    }

    // ---- laws

    public int law(int n, int narrow) {
        if (n < 1 || n > MOST_VARIABLES || (narrow >> n) != 0) {
            return NUMBER;
        }
        if (lawCount >= MOST_LAWS) {
            return FULL;
        }
        laws[lawCount] = new Law(lawCount, n, narrow, signals, reckoner);
        lawCount++;
        return lawCount - 1;
    }

    public int constant(int l, long n, int k) {
        Law law = lawAt(l);
        if (law == null || !isK(k)) {
            return NUMBER;
        }
        return law.add(KIND_CONSTANT, 0, 0, 0, quotient(n, k));
    }

    public int node(int l, int kind, int a, int b, int c) {
        Law law = lawAt(l);
        if (law == null || !fits(law, kind, a, b, c)) {
            return NUMBER;
        }
        return law.add(kind, a, b, c, 0.0);
    }

    public int side(int l, int i, int q) {
        Law law = lawAt(l);
        if (law == null || !law.hasVariable(i) || !law.hasNode(q)) {
            return NUMBER;
        }
        for (int r = 0; r < runCount; r++) {
            Run run = runs[r];
            if (run != null && run.law == law) {
                return STATE;
            }
        }
        law.putSide(i, q);
        return 1;
    }

    public int signal(int how) {
        if (how < 0 || how > 1) {
            return NUMBER;
        }
        if (signalCount >= MOST_SIGNALS) {
            return FULL;
        }
        signals[signalCount] = new Signal(how == 1);
        signalCount++;
        return signalCount - 1;
    }

    public int point(int s, long t, long v, int k) {
        if (s < 0 || s >= signalCount || !isK(k)) {
            return NUMBER;
        }
        Signal signal = signals[s];
        return signal == null ? NUMBER : signal.add(quotient(t, k), quotient(v, k));
    }

    public int many(int what) {
        if (what < 0 || what > 2 + MOST_LAWS) {
            return NUMBER;
        }
        if (what == 0) {
            return lawCount;
        }
        if (what == 1) {
            return signalCount;
        }
        if (what == 2) {
            return runCount;
        }
        Law law = lawAt(what - 3);
        return law == null ? 0 : law.nodeCount;
    }

    // ---- runs

    public int run(int l, long n, int k) {
        Law law = lawAt(l);
        if (law == null || !isK(k)) {
            return NUMBER;
        }
        if (!law.isReady()) {
            return STATE;
        }
        if (runCount >= MOST_RUNS) {
            return FULL;
        }
        runs[runCount] = new Run(law, quotient(n, k), reckoner);
        runCount++;
        return runCount - 1;
    }

    public int set(int r, int i, long n, int k) {
        Run run = runAt(r);
        if (run == null || !run.law.hasVariable(i) || !isK(k)) {
            return NUMBER;
        }
        if (run.ended) {
            return STATE;
        }
        run.state.put(i, quotient(n, k), false, run.law.isNarrow(i));
        return 1;
    }

    public int method(int r, int m) {
        Run run = runAt(r);
        if (run == null || m < PLAIN || m > LEAP) {
            return NUMBER;
        }
        if (m == LEAP && (run.law.n & 1) == 1) {
            return STATE;
        }
        run.method = m;
        return 1;
    }

    public int length(int r, long n, int k) {
        Run run = runAt(r);
        if (run == null || !isK(k)) {
            return NUMBER;
        }
        double length = quotient(n, k);
        double size = size(length);
        if (size > 1024.0 || isTooSmall(size)) {
            return NUMBER;
        }
        run.length = length;
        return 1;
    }

    public int tolerance(int r, long a, long b, int k) {
        Run run = runAt(r);
        if (run == null || !isK(k) || a < 1 || b < 0) {
            return NUMBER;
        }
        run.absolute = quotient(a, k);
        run.relative = quotient(b, k);
        return 1;
    }

    public int event(int r, int q, int direction, int action, int w) {
        Run run = runAt(r);
        if (run == null || !run.law.hasNode(q)) {
            return NUMBER;
        }
        if (direction < -1 || direction > 1 || action < 0 || action > MOST_ACTION) {
            return NUMBER;
        }
        return run.events.add(q, direction, action, w);
    }

    public int step(int r) {
        Run run = runAt(r);
        if (run == null) {
            return NUMBER;
        }
        if (run.ended) {
            return STATE;
        }
        return advance(run, run.length, false, 0.0);
    }

    public int to(int r, long n, int k, int most) {
        Run run = runAt(r);
        if (run == null || !isK(k) || most < 1 || most > MOST_TAKEN) {
            return NUMBER;
        }
        if (run.ended) {
            return STATE;
        }
        double target = quotient(n, k);
        if (target == run.time) {
            return 0;
        }
        if ((target < run.time) != (run.length < 0.0)) {
            return STATE;
        }
        Run ahead = store(run, PLACE_OF_TO);
        int taken = 0;
        while (taken < most && !run.ended && run.time != target) {
            double rest = target - run.time;
            boolean cut = size(rest) <= size(run.length);
            int answer = advance(run, cut ? rest : run.length, cut, target);
            if (answer < 0) {
                run.copy(ahead);
                return answer;
            }
            taken++;
        }
        return taken;
    }

    public long state(int r, int i) {
        Run run = runAt(r);
        if (run == null || !run.law.hasVariable(i)) {
            return NONE;
        }
        return teller.told(run.state, i);
    }

    public long clock(int r, int what) {
        Run run = runAt(r);
        if (run == null) {
            return NONE;
        }
        switch (what) {
            case 0:
                return teller.bits(run.time);
            case 1:
                return teller.bits(run.length);
            case 2:
                return teller.bits(run.last.error);
            case 3:
                return teller.bits(run.last.h);
            default:
                return NONE;
        }
    }

    public int count(int r, int what) {
        Run run = runAt(r);
        if (run == null) {
            return NUMBER;
        }
        switch (what) {
            case 0:
                return run.law.number;
            case 1:
                return run.method;
            case 2:
                return run.taken;
            case 3:
                return run.rejected;
            case 4:
                return run.last.gap;
            case 5:
                return run.ended ? 1 : 0;
            case 6:
                return run.events.eventCount;
            case 7:
                return run.events.firedCount;
            default:
                return NUMBER;
        }
    }

    public long stage(int r, int j, int i) {
        Run run = runAt(r);
        if (run == null || !run.law.hasVariable(i) || run.taken == 0) {
            return NONE;
        }
        int method = run.last.method;
        if (j == STAGE_OF_E && method == PAIR) {
            return teller.told(run.last.e, i);
        }
        if (j < 1 || j > STAGES[method]) {
            return NONE;
        }
        return teller.told(run.last.k[j - 1], i);
    }

    public long value(int r, int q) {
        Run run = runAt(r);
        if (run == null || !run.law.hasNode(q)) {
            return NONE;
        }
        run.law.reckonNodes(run.time, run.state, q + 1);
        return teller.told(run.law.values, q);
    }

    public long between(int r, int i, long n, int k) {
        Run run = runAt(r);
        if (run == null || !run.law.hasVariable(i) || run.taken == 0 || !isK(k)) {
            return NONE;
        }
        double s = quotient(n, k);
        if (s < 0.0 || s > 1.0) {
            return NONE;
        }
        run.last.blend(i, s);
        return teller.told(run.last.y, i);
    }

    public long fired(int r, int j, int what) {
        Run run = runAt(r);
        if (run == null || !run.events.hasFired(j)) {
            return NONE;
        }
        if (what == 0) {
            return run.events.firedEvent[j];
        }
        return what == 1 ? teller.bits(run.events.firedTime[j]) : NONE;
    }

    public long halves(int r, int i) {
        Run run = runAt(r);
        if (run == null || !run.law.hasVariable(i) || run.ended) {
            return NONE;
        }
        Law law = run.law;
        double half = run.length / 2.0;
        if (!trial.make(law, run.method, run.time, run.state, run.length)) {
            return NONE;
        }
        double whole = trial.z.number[i];
        if (!firstHalf.make(law, run.method, run.time, run.state, half)) {
            return NONE;
        }
        if (!trial.make(law, run.method, firstHalf.end, firstHalf.z, half)) {
            return NONE;
        }
        // Both are FINITE, as neither step is WILD.
        return teller.bits(trial.z.number[i] - whole);
    }

    // ---- kept runs

    public int keep(int r, int p) {
        Run run = runAt(r);
        if (run == null || p < 0 || p >= PLACES_KEPT) {
            return NUMBER;
        }
        store(run, p);
        return 1;
    }

    public int back(int r, int p) {
        Run run = runAt(r);
        if (run == null || p < 0 || p >= PLACES_KEPT) {
            return NUMBER;
        }
        Run there = kept[p];
        if (there == null) {
            return STATE;
        }
        run.copy(there);
        return 1;
    }

    public int unlike(int r, int p) {
        Run run = runAt(r);
        if (run == null || p < 0 || p >= PLACES_KEPT) {
            return NUMBER;
        }
        Run there = kept[p];
        if (there == null) {
            return STATE;
        }
        int found = 0;
        if (teller.bits(run.time) != teller.bits(there.time)) {
            found++;
        }
        if (teller.bits(run.length) != teller.bits(there.length)) {
            found++;
        }
        int both = Math.min(run.law.n, there.law.n);
        for (int i = 0; i < both; i++) {
            if (teller.told(run.state, i) != teller.told(there.state, i)) {
                found++;
            }
        }
        return found + Math.max(run.law.n, there.law.n) - both;
    }

    // ---- what the calls share

    private Law lawAt(int l) {
        return l >= 0 && l < lawCount ? laws[l] : null;
    }

    private Run runAt(int r) {
        return r >= 0 && r < runCount ? runs[r] : null;
    }

    private static boolean isK(int k) {
        return k >= 0 && k <= HIGHEST_K;
    }

    private static double quotient(long n, int k) {
        return (double) n / (double) (1L << k);
    }

    /** Without the sign, that of -0.0 too. */
    private static double size(double a) {
        return a <= 0.0 ? 0.0 - a : a;
    }

    private static boolean isTooSmall(double size) {
        return size < 1.0 / 1073741824.0;
    }

    private boolean fits(Law law, int kind, int a, int b, int c) {
        switch (kind) {
            case KIND_STATE:
                return law.hasVariable(a);
            case KIND_TIME:
                return true;
            case KIND_NEGATED:
            case KIND_SIZE:
                return law.hasNode(a);
            case KIND_SUM:
            case KIND_DIFFERENCE:
            case KIND_PRODUCT:
            case KIND_QUOTIENT:
            case KIND_LEAST:
            case KIND_GREATEST:
                return law.hasNode(a) && law.hasNode(b);
            case KIND_CHOICE:
                return law.hasNode(a) && law.hasNode(b) && law.hasNode(c);
            case KIND_POWER:
                return law.hasNode(a) && b >= 0 && b <= HIGHEST_POWER;
            case KIND_SIGNAL:
                return law.hasNode(a) && b >= 0 && b < signalCount;
            default:
                return false;
        }
    }

    /** A step of h, made anew while it is REJECTED: how many were, WILD or SMALL. */
    private int advance(Run run, double h, boolean cut, double target) {
        double length = h;
        for (int rejected = 0; rejected < MOST_MADE; rejected++) {
            if (!trial.make(run.law, run.method, run.time, run.state, length)) {
                return WILD;
            }
            if (run.method == PAIR) {
                trial.judge(run.absolute, run.relative);
            }
            if (trial.error <= 1.0) {
                finish(run, rejected, cut, target);
                run.lookAtEvents();
                return rejected;
            }
            length = trial.error <= 8.0 ? length / 2.0 : length / 4.0;
            if (isTooSmall(size(length))) {
                return SMALL;
            }
        }
        return SMALL;
    }

    /** The trial is TAKEN; its EVENTS are not looked at yet. */
    private void finish(Run run, int rejected, boolean cut, double target) {
        run.take(trial, rejected);
        if (cut && rejected == 0) {
            run.time = target;
        } else if (run.method == PAIR) {
            run.length = rejected == 0 ? grown(trial.h, trial.error) : trial.h;
        }
    }

    private static double grown(double h, double error) {
        double length = h;
        if (error <= 1.0 / 64.0) {
            length = h * 4.0;
        } else if (error <= 1.0 / 8.0) {
            length = h * 2.0;
        }
        if (length > 1024.0) {
            return 1024.0;
        }
        return length < -1024.0 ? -1024.0 : length;
    }

    private Run store(Run run, int place) {
        Run there = kept[place];
        if (there == null) {
            there = new Run(run.law, run.time, reckoner);
            kept[place] = there;
        }
        there.copy(run);
        return there;
    }

    /** Tells doubles by their bits, which the language's subset has no function for. */
    private static final class Teller {
        /** 2 to the power of 1, 2, 4, .. 512. */
        final double[] powers;

        Teller() {
            powers = new double[10];
            double power = 2.0;
            for (int i = 0; i < powers.length; i++) {
                powers[i] = power;
                // Not behind the last one: 2^1024 would be an infinity.
                power = i < powers.length - 1 ? power * power : power;
            }
        }

        long told(Row row, int i) {
            return row.none[i] ? NONE : bits(row.number[i]);
        }

        long bits(double a) {
            // -0.0 is equal to 0.0 by value: only a quotient tells them apart.
            boolean negative = a < 0.0 || a == 0.0 && 1.0 / a < 0.0;
            long sign = negative ? 0x8000000000000000L : 0L;
            return sign | bitsOfSize(negative ? 0.0 - a : a);
        }

        private long bitsOfSize(double size) {
            if (size > 1.7976931348623157E308) {
                return 0x7FF0000000000000L;
            }
            if (size < 2.2250738585072014E-308) {
                // A whole number of 2^-1074, the least one.
                return (long) (size * powers[9] * powers[9] * 1125899906842624.0);
            }
            double part = size;
            long exponent = 1023L;
            for (int i = powers.length - 1; i >= 0; i--) {
                if (part >= powers[i]) {
                    part /= powers[i];
                    exponent += 1L << i;
                }
            }
            for (int i = powers.length - 1; i >= 0; i--) {
                if (part * powers[i] < 2.0) {
                    part *= powers[i];
                    exponent -= 1L << i;
                }
            }
            return (exponent << 52) + ((long) (part * 4503599627370496.0) - 4503599627370496L);
        }
    }

    /** NUMBERS in a row, one for each VARIABLE or NODE; what is none has no double. */
    private static final class Row {
        final double[] number;
        final boolean[] none;

        Row(int size) {
            number = new double[size];
            none = new boolean[size];
        }

        /** From a row of the same size. */
        void copy(Row from) {
            for (int i = 0; i < number.length; i++) {
                number[i] = from.number[i];
                none[i] = from.none[i];
            }
        }

        void copyOne(int i, Row from) {
            number[i] = from.number[i];
            none[i] = from.none[i];
        }

        void put(int i, double a, boolean isNone, boolean isNarrow) {
            none[i] = isNone;
            if (isNone) {
                number[i] = 0.0;
            } else {
                number[i] = isNarrow ? (double) (float) a : a;
            }
        }

        boolean isFinite(int n) {
            for (int i = 0; i < n; i++) {
                if (none[i] || number[i] > 1.7976931348623157E308
                        || number[i] < -1.7976931348623157E308) {
                    return false;
                }
            }
            return true;
        }
    }

    /**
     * Operations on doubles. None may answer NaN here, so one that would is not made: that there is
     * no number is remembered until the next begin(), as NaN goes through all operations behind it.
     */
    private static final class Reckoner {
        /** The greatest FINITE double. */
        final double greatest;
        boolean none;

        Reckoner() {
            greatest = 1.7976931348623157E308;
        }

        void begin() {
            none = false;
        }

        double read(Row row, int i) {
            none = none || row.none[i];
            return row.number[i];
        }

        double sum(double a, double b) {
            if (a > greatest && b < -greatest || a < -greatest && b > greatest) {
                none = true;
                return 0.0;
            }
            return a + b;
        }

        double difference(double a, double b) {
            if (a > greatest && b > greatest || a < -greatest && b < -greatest) {
                none = true;
                return 0.0;
            }
            return a - b;
        }

        double product(double a, double b) {
            if (a == 0.0 && (b > greatest || b < -greatest)
                    || b == 0.0 && (a > greatest || a < -greatest)) {
                none = true;
                return 0.0;
            }
            return a * b;
        }

        double quotient(double a, double b) {
            boolean infinite = (a > greatest || a < -greatest) && (b > greatest || b < -greatest);
            if (infinite || a == 0.0 && b == 0.0) {
                none = true;
                return 0.0;
            }
            return a / b;
        }

        double lesser(double a, double b) {
            if (a == 0.0 && b == 0.0) {
                return 1.0 / a < 0.0 ? a : b;
            }
            return a <= b ? a : b;
        }

        double greater(double a, double b) {
            if (a == 0.0 && b == 0.0) {
                return 1.0 / a < 0.0 ? b : a;
            }
            return a >= b ? a : b;
        }

        /** 0.0 and an infinity never meet here: all factors are a or powers of it. */
        double power(double a, int m) {
            double product = 1.0;
            for (int i = 0; i < m; i++) {
                product *= a;
            }
            return product;
        }
    }

    private static final class Signal {
        final boolean isLine;
        final double[] times;
        final double[] heights;
        int pointCount;

        Signal(boolean isLine) {
            this.isLine = isLine;
            times = new double[MOST_POINTS];
            heights = new double[MOST_POINTS];
        }

        int add(double time, double height) {
            if (pointCount > 0 && time <= times[pointCount - 1]) {
                return STATE;
            }
            if (pointCount >= MOST_POINTS) {
                return FULL;
            }
            times[pointCount] = time;
            heights[pointCount] = height;
            pointCount++;
            return pointCount - 1;
        }

        double heightAt(double a) {
            if (pointCount == 0) {
                return 0.0;
            }
            int p = 0;
            for (int i = 1; i < pointCount && times[i] <= a; i++) {
                p = i;
            }
            if (!isLine || a <= times[p] || p + 1 >= pointCount) {
                return heights[p];
            }
            // All are FINITE here, and times rise: no NaN comes of this.
            double part = (a - times[p]) / (times[p + 1] - times[p]);
            return heights[p] + (heights[p + 1] - heights[p]) * part;
        }
    }

    private static final class Law {
        final int number;
        final int n;
        final int narrow;
        final Signal[] signals;
        final Reckoner reckoner;
        final int[] kinds;
        final int[] as;
        final int[] bs;
        final int[] cs;
        final double[] constants;
        int nodeCount;
        final int[] sides;
        /** So many NODES, from the first one on, have all SIDES among them. */
        int sideEnd;
        /** The NODES' values as reckoned last. */
        final Row values;

        Law(int number, int n, int narrow, Signal[] signals, Reckoner reckoner) {
            this.number = number;
            this.n = n;
            this.narrow = narrow;
            this.signals = signals;
            this.reckoner = reckoner;
            kinds = new int[MOST_NODES];
            as = new int[MOST_NODES];
            bs = new int[MOST_NODES];
            cs = new int[MOST_NODES];
            constants = new double[MOST_NODES];
            values = new Row(MOST_NODES);
            sides = new int[n];
            for (int i = 0; i < n; i++) {
                sides[i] = -1;
            }
        }

        boolean hasVariable(int i) {
            return i >= 0 && i < n;
        }

        boolean hasNode(int q) {
            return q >= 0 && q < nodeCount;
        }

        boolean isNarrow(int i) {
            return (narrow >> i & 1) == 1;
        }

        boolean isReady() {
            for (int i = 0; i < n; i++) {
                if (sides[i] < 0) {
                    return false;
                }
            }
            return true;
        }

        int add(int kind, int a, int b, int c, double constant) {
            if (nodeCount >= MOST_NODES) {
                return FULL;
            }
            kinds[nodeCount] = kind;
            as[nodeCount] = a;
            bs[nodeCount] = b;
            cs[nodeCount] = c;
            constants[nodeCount] = constant;
            nodeCount++;
            return nodeCount - 1;
        }

        void putSide(int i, int q) {
            sides[i] = q;
            sideEnd = 0;
            for (int j = 0; j < n; j++) {
                sideEnd = Math.max(sideEnd, sides[j] + 1);
            }
        }

        /** Reckons the NODES 0 to end - 1. */
        void reckonNodes(double t, Row x, int end) {
            for (int q = 0; q < end; q++) {
                reckoner.begin();
                double a = reckoned(q, t, x);
                values.put(q, a, reckoner.none, false);
            }
        }

        void readSides(Row into) {
            for (int i = 0; i < n; i++) {
                int q = sides[i];
                if (q >= 0) {
                    into.number[i] = values.number[q];
                    into.none[i] = values.none[q];
                }
            }
        }

        private double reckoned(int q, double t, Row x) {
            int a = as[q];
            int b = bs[q];
            switch (kinds[q]) {
                case KIND_STATE:
                    return reckoner.read(x, a);
                case KIND_TIME:
                    return t;
                case KIND_SUM:
                    return reckoner.sum(reckoner.read(values, a), reckoner.read(values, b));
                case KIND_DIFFERENCE:
                    return reckoner.difference(reckoner.read(values, a), reckoner.read(values, b));
                case KIND_PRODUCT:
                    return reckoner.product(reckoner.read(values, a), reckoner.read(values, b));
                case KIND_QUOTIENT:
                    return reckoner.quotient(reckoner.read(values, a), reckoner.read(values, b));
                case KIND_NEGATED:
                    return -reckoner.read(values, a);
                case KIND_SIZE:
                    return size(reckoner.read(values, a));
                case KIND_LEAST:
                    return reckoner.lesser(reckoner.read(values, a), reckoner.read(values, b));
                case KIND_GREATEST:
                    return reckoner.greater(reckoner.read(values, a), reckoner.read(values, b));
                case KIND_CHOICE:
                    return reckoner.read(values, signOf(a) == -1 ? b : cs[q]);
                case KIND_POWER:
                    return b == 0 ? 1.0 : reckoner.power(reckoner.read(values, a), b);
                case KIND_SIGNAL:
                    Signal signal = signals[b];
                    return signal == null || signal.pointCount == 0
                            ? 0.0 : signal.heightAt(reckoner.read(values, a));
                default:
                    return constants[q];
            }
        }

        /** Of a NODE's value as reckoned last: -1 below 0, 0 if it is 0, 1 above, 2 if it is none. */
        int signOf(int q) {
            if (values.none[q]) {
                return 2;
            }
            double a = values.number[q];
            if (a < 0.0) {
                return -1;
            }
            return a > 0.0 ? 1 : 0;
        }
    }

    /** One step of a written METHOD, with all that is told of it. */
    private static final class Step {
        final Reckoner reckoner;
        Law law;
        int method;
        double t;
        double h;
        /** t + h */
        double end;
        final Row x;
        /** A workplace: no part of what a step that was TAKEN is. */
        final Row y;
        /** The new state. */
        final Row z;
        final Row[] k;
        final Row e;
        /** The SIDES' values at the end, kept for what lies between. */
        final Row f1;
        double error;
        int gap;

        Step(Reckoner reckoner) {
            this.reckoner = reckoner;
            x = new Row(MOST_VARIABLES);
            y = new Row(MOST_VARIABLES);
            z = new Row(MOST_VARIABLES);
            k = new Row[4];
            for (int j = 0; j < k.length; j++) {
                k[j] = new Row(MOST_VARIABLES);
            }
            e = new Row(MOST_VARIABLES);
            f1 = new Row(MOST_VARIABLES);
        }

        void copy(Step from) {
            law = from.law;
            method = from.method;
            t = from.t;
            h = from.h;
            end = from.end;
            x.copy(from.x);
            z.copy(from.z);
            for (int j = 0; j < k.length; j++) {
                k[j].copy(from.k[j]);
            }
            e.copy(from.e);
            f1.copy(from.f1);
            error = from.error;
            gap = from.gap;
        }

        /** Makes the step: false if it is WILD. */
        boolean make(Law ofLaw, int byMethod, double from, Row states, double length) {
            law = ofLaw;
            method = byMethod;
            t = from;
            h = length;
            end = t + h;
            x.copy(states);
            error = 0.0;
            gap = 0;
            if (!slope(0, t, x)) {
                return false;
            }
            boolean tame = true;
            switch (method) {
                case PLAIN:
                    move(z, h, 0);
                    break;
                case MIDDLE:
                    tame = middle();
                    break;
                case THIRD:
                    tame = third();
                    break;
                case FOURTH:
                    tame = fourth();
                    break;
                case PAIR:
                    tame = pair();
                    break;
                case BACKWARD:
                    tame = backward();
                    break;
                default:
                    tame = leap();
                    break;
            }
            return tame && z.isFinite(law.n) && end <= reckoner.greatest
                    && end >= -reckoner.greatest;
        }

        /** Row j of k becomes f: false if a value isn't FINITE, as the step is WILD then. */
        private boolean slope(int j, double time, Row at) {
            law.reckonNodes(time, at, law.sideEnd);
            law.readSides(k[j]);
            return k[j].isFinite(law.n);
        }

        /** into = from + weight * slope, put, behind what the reckoner has begun. */
        private void arrive(Row into, int i, Row from, double weight, double slope) {
            double way = reckoner.product(weight, slope);
            double a = reckoner.sum(reckoner.read(from, i), way);
            into.put(i, a, reckoner.none, law.isNarrow(i));
        }

        /** into = x + weight * kj, for all VARIABLES. */
        private void move(Row into, double weight, int j) {
            for (int i = 0; i < law.n; i++) {
                reckoner.begin();
                arrive(into, i, x, weight, k[j].number[i]);
            }
        }

        // The written METHODS behind k1, which all have: false if a value in a k isn't FINITE.

        private boolean middle() {
            double g = h / 2.0;
            move(y, g, 0);
            if (!slope(1, t + g, y)) {
                return false;
            }
            move(z, h, 1);
            return true;
        }

        private boolean third() {
            double g = h / 2.0;
            move(y, g, 0);
            if (!slope(1, t + g, y)) {
                return false;
            }
            for (int i = 0; i < law.n; i++) {
                reckoner.begin();
                double slope = reckoner.difference(2.0 * k[1].number[i], k[0].number[i]);
                arrive(y, i, x, h, slope);
            }
            if (!slope(2, t + h, y)) {
                return false;
            }
            for (int i = 0; i < law.n; i++) {
                reckoner.begin();
                double slope = reckoner.sum(k[0].number[i], 4.0 * k[1].number[i]);
                slope = reckoner.sum(slope, k[2].number[i]);
                arrive(z, i, x, h / 6.0, slope);
            }
            return true;
        }

        private boolean fourth() {
            double g = h / 2.0;
            move(y, g, 0);
            if (!slope(1, t + g, y)) {
                return false;
            }
            move(y, g, 1);
            if (!slope(2, t + g, y)) {
                return false;
            }
            move(y, h, 2);
            if (!slope(3, t + h, y)) {
                return false;
            }
            for (int i = 0; i < law.n; i++) {
                reckoner.begin();
                double slope = reckoner.sum(k[0].number[i], 2.0 * k[1].number[i]);
                slope = reckoner.sum(slope, 2.0 * k[2].number[i]);
                slope = reckoner.sum(slope, k[3].number[i]);
                arrive(z, i, x, h / 6.0, slope);
            }
            return true;
        }

        private boolean pair() {
            double g = h / 2.0;
            move(y, g, 0);
            if (!slope(1, t + g, y)) {
                return false;
            }
            double d = (3.0 * h) / 4.0;
            move(y, d, 1);
            if (!slope(2, t + d, y)) {
                return false;
            }
            for (int i = 0; i < law.n; i++) {
                reckoner.begin();
                double slope = reckoner.sum(2.0 * k[0].number[i], 3.0 * k[1].number[i]);
                slope = reckoner.sum(slope, 4.0 * k[2].number[i]);
                arrive(z, i, x, h / 9.0, slope);
            }
            if (!slope(3, t + h, z)) {
                return false;
            }
            for (int i = 0; i < law.n; i++) {
                reckoner.begin();
                double slope = reckoner.sum(6.0 * k[1].number[i], 8.0 * k[2].number[i]);
                slope = reckoner.difference(slope, 5.0 * k[0].number[i]);
                slope = reckoner.difference(slope, 9.0 * k[3].number[i]);
                double a = reckoner.product(h / 72.0, slope);
                e.put(i, a, reckoner.none, false);
            }
            return e.isFinite(law.n);
        }

        private boolean backward() {
            move(y, h, 0);
            for (int time = 0; time < 6; time++) {
                if (!slope(1, t + h, y)) {
                    return false;
                }
                move(z, h, 1);
                gap = unlikeCount();
                y.copy(z);
            }
            return true;
        }

        /** In how many VARIABLES y and z are unlike by value; what is none is like nothing. */
        private int unlikeCount() {
            int found = 0;
            for (int i = 0; i < law.n; i++) {
                if (y.none[i] || z.none[i] || y.number[i] != z.number[i]) {
                    found++;
                }
            }
            return found;
        }

        private boolean leap() {
            double g = h / 2.0;
            int places = law.n / 2;
            y.copy(x);
            for (int i = places; i < law.n; i++) {
                reckoner.begin();
                arrive(y, i, x, g, k[0].number[i]);
            }
            if (!slope(1, t + g, y)) {
                return false;
            }
            z.copy(y);
            for (int i = 0; i < places; i++) {
                reckoner.begin();
                arrive(z, i, x, h, k[1].number[i]);
            }
            if (!slope(2, t + h, z)) {
                return false;
            }
            for (int i = places; i < law.n; i++) {
                reckoner.begin();
                arrive(z, i, y, g, k[2].number[i]);
            }
            return true;
        }

        /** The ERROR of a PAIR made last; all that it looks at is FINITE, as it is not WILD. */
        void judge(double absolute, double relative) {
            for (int i = 0; i < law.n; i++) {
                double old = size(x.number[i]);
                double now = size(z.number[i]);
                double bound = absolute + relative * (old >= now ? old : now);
                double ratio = size(e.number[i]) / bound;
                error = ratio > error ? ratio : error;
            }
        }

        /** The step is TAKEN: what SIDES tell at its end now is what lies between it goes by. */
        void reckonEnd() {
            law.reckonNodes(end, z, law.sideEnd);
            law.readSides(f1);
        }

        /** Puts what lies between at s into y, for one VARIABLE. */
        void blend(int i, double s) {
            if (s == 0.0) {
                y.copyOne(i, x);
                return;
            }
            if (s == 1.0) {
                y.copyOne(i, z);
                return;
            }
            double u = 1.0 - s;
            reckoner.begin();
            double start = reckoner.sum(
                    reckoner.product(1.0 + 2.0 * s, reckoner.read(x, i)),
                    reckoner.product(s * h, reckoner.read(k[0], i)));
            double finish = reckoner.difference(
                    reckoner.product(1.0 + 2.0 * u, reckoner.read(z, i)),
                    reckoner.product(u * h, reckoner.read(f1, i)));
            double a = reckoner.sum(
                    reckoner.product(u * u, start), reckoner.product(s * s, finish));
            y.put(i, a, reckoner.none, law.isNarrow(i));
        }

        void blendAll(double s) {
            for (int i = 0; i < law.n; i++) {
                blend(i, s);
            }
        }

        double timeAt(double s) {
            return t + s * h;
        }
    }

    /** The EVENTS of a RUN, and those that FIRED. */
    private static final class Events {
        int eventCount;
        final int[] nodes;
        final int[] directions;
        final int[] actions;
        final int[] targets;
        /** Where an EVENT comes in the latest step, 2.0 if it does not (or no more). */
        final double[] highs;
        int firedCount;
        final int[] firedEvent;
        final double[] firedTime;

        Events() {
            nodes = new int[MOST_EVENTS];
            directions = new int[MOST_EVENTS];
            actions = new int[MOST_EVENTS];
            targets = new int[MOST_EVENTS];
            highs = new double[MOST_EVENTS];
            firedEvent = new int[MOST_FIRED];
            firedTime = new double[MOST_FIRED];
        }

        void copy(Events from) {
            eventCount = from.eventCount;
            System.arraycopy(from.nodes, 0, nodes, 0, MOST_EVENTS);
            System.arraycopy(from.directions, 0, directions, 0, MOST_EVENTS);
            System.arraycopy(from.actions, 0, actions, 0, MOST_EVENTS);
            System.arraycopy(from.targets, 0, targets, 0, MOST_EVENTS);
            firedCount = from.firedCount;
            System.arraycopy(from.firedEvent, 0, firedEvent, 0, MOST_FIRED);
            System.arraycopy(from.firedTime, 0, firedTime, 0, MOST_FIRED);
        }

        int add(int q, int direction, int action, int w) {
            if (eventCount >= MOST_EVENTS) {
                return FULL;
            }
            nodes[eventCount] = q;
            directions[eventCount] = direction;
            actions[eventCount] = action;
            targets[eventCount] = w;
            eventCount++;
            return eventCount - 1;
        }

        boolean hasFired(int j) {
            return j >= 0 && j < firedCount && j < MOST_FIRED;
        }

        void fire(int i, double time) {
            highs[i] = 2.0;
            if (firedCount < MOST_FIRED) {
                firedEvent[firedCount] = i;
                firedTime[firedCount] = time;
            }
            firedCount++;
        }

        /** Of those that come and have not FIRED yet the first one; -1 if there is none. */
        int earliest() {
            int first = -1;
            double least = 2.0;
            for (int i = 0; i < eventCount; i++) {
                if (highs[i] < least) {
                    least = highs[i];
                    first = i;
                }
            }
            return first;
        }

        /** 1 at a rise that counts, -1 at such a fall, else 0; signs as Law.signOf tells them. */
        int turn(int i, int before, int after) {
            if (before == -1 && (after == 0 || after == 1) && directions[i] >= 0) {
                return 1;
            }
            if (before == 1 && (after == 0 || after == -1) && directions[i] <= 0) {
                return -1;
            }
            return 0;
        }
    }

    private static final class Run {
        Law law;
        double time;
        final Row state;
        int method;
        double length;
        double absolute;
        double relative;
        boolean ended;
        int taken;
        int rejected;
        final Events events;
        /** The latest step that was TAKEN. */
        final Step last;

        Run(Law law, double time, Reckoner reckoner) {
            this.law = law;
            this.time = time;
            state = new Row(MOST_VARIABLES);
            method = PLAIN;
            length = 0.125;
            absolute = 1.0 / 1048576.0;
            relative = 0.0;
            events = new Events();
            last = new Step(reckoner);
        }

        void copy(Run from) {
            law = from.law;
            time = from.time;
            state.copy(from.state);
            method = from.method;
            length = from.length;
            absolute = from.absolute;
            relative = from.relative;
            ended = from.ended;
            taken = from.taken;
            rejected = from.rejected;
            events.copy(from.events);
            last.copy(from.last);
        }

        void take(Step step, int rejectedAhead) {
            last.copy(step);
            last.reckonEnd();
            state.copy(last.z);
            time = last.end;
            taken++;
            rejected += rejectedAhead;
        }

        void lookAtEvents() {
            for (int i = 0; i < events.eventCount; i++) {
                events.highs[i] = highOf(i);
            }
            for (int round = 0; round < events.eventCount; round++) {
                int i = events.earliest();
                if (i < 0) {
                    return;
                }
                double high = events.highs[i];
                events.fire(i, last.timeAt(high));
                if (events.actions[i] != 0) {
                    act(i, high);
                    return;
                }
            }
        }

        /** Where EVENT i comes in the latest step, 2.0 if it does not. */
        private double highOf(int i) {
            int q = events.nodes[i];
            law.reckonNodes(last.t, last.x, q + 1);
            int before = law.signOf(q);
            law.reckonNodes(last.end, last.z, q + 1);
            int turn = events.turn(i, before, law.signOf(q));
            return turn == 0 ? 2.0 : search(q, turn);
        }

        private double search(int q, int turn) {
            double low = 0.0;
            double high = 1.0;
            for (int round = 0; round < 30; round++) {
                double mid = (low + high) / 2.0;
                last.blendAll(mid);
                law.reckonNodes(last.timeAt(mid), last.y, q + 1);
                int sign = law.signOf(q);
                if (sign == 0 || sign == turn) {
                    high = mid;
                } else {
                    low = mid;
                }
            }
            return high;
        }

        private void act(int i, double high) {
            if (high != 1.0) {
                last.blendAll(high);
                state.copy(last.y);
                time = last.timeAt(high);
            }
            if (events.actions[i] == ACTION_END) {
                ended = true;
            } else if (events.actions[i] == ACTION_NEGATE) {
                int w = law.hasVariable(events.targets[i]) ? events.targets[i] : 0;
                state.number[w] = -state.number[w];
            }
        }
    }
}
