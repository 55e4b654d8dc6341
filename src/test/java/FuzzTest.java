import java.util.Random;

/** Holds runs of calls, made by chance from written seeds, against Reference. */
public final class FuzzTest {
    private static final int CALLS = 512;
    private static final long[] EDGES = {0, 1, -1, 2, 3, -3, 7, 1000, -1000, 1L << 30, 1L << 40,
        (1L << 53) + 1, Long.MAX_VALUE, Long.MIN_VALUE, (1L << 62) + 12345};

    private static final String[] SEEN = {"steps", "rejected", "fired", "wild", "refused",
        "infinite states", "states that are none", "infinite betweens", "betweens that are none",
        "values that are none", "halves"};

    private final Random chance;
    /** Runs of large numbers: they leave what is FINITE more often. */
    private final boolean large;
    private final StringBuilder told = new StringBuilder();
    private MotionStepper desk;
    private Reference due;
    private int wrong;
    private final long[] seen = new long[SEEN.length];

    private FuzzTest(long seed) {
        chance = new Random(seed);
        large = seed % 3 == 0;
    }

    public static void main(String[] args) {
        int seeds = args.length > 0 ? Integer.parseInt(args[0]) : 3000;
        int wrong = 0;
        long[] seen = new long[SEEN.length];
        for (int seed = 1; seed <= seeds && wrong < 5; seed++) {
            FuzzTest test = new FuzzTest(seed);
            test.go(seed);
            wrong += test.wrong;
            for (int i = 0; i < seen.length; i++) {
                seen[i] += test.seen[i];
            }
        }
        System.out.println(seeds + " runs");
        for (int i = 0; i < seen.length; i++) {
            System.out.println("  " + SEEN[i] + ": " + seen[i]);
            if (seen[i] == 0) {
                System.out.println("the runs leave that untried");
                wrong++;
            }
        }
        System.exit(wrong == 0 ? 0 : 1);
    }

    private void go(long seed) {
        desk = new MotionStepper();
        due = new Reference();
        build();
        for (int call = 0; call < CALLS && wrong == 0; call++) {
            one();
        }
        for (int r = 0; r < 4; r++) {
            seen[0] += Math.max(0, desk.count(r, 2));
            seen[1] += Math.max(0, desk.count(r, 3));
            seen[2] += Math.max(0, desk.count(r, 7));
        }
        if (wrong > 0) {
            System.out.println("seed " + seed + ":\n" + told);
        }
    }

    private int below(int n) {
        return chance.nextInt(n);
    }

    /** Mostly 0 to n - 1, sometimes beside it. */
    private int near(int n) {
        int dice = below(40);
        if (dice == 0) return -1;
        if (dice == 1) return n;
        if (dice == 2) return chance.nextInt();
        return n <= 0 ? 0 : below(n);
    }

    private int power() {
        int dice = below(60);
        return dice == 0 ? -1 : dice == 1 ? 31 : dice < 20 ? below(31) : below(5);
    }

    private long amount() {
        int dice = below(10);
        if (dice == 0) return EDGES[below(EDGES.length)];
        if (dice == 1) return chance.nextLong() >> below(64);
        return below(21) - 10;
    }

    private void check(String name, long got, long want, long... args) {
        told.append(name).append('(');
        for (int i = 0; i < args.length; i++) {
            told.append(i == 0 ? "" : ", ").append(args[i]);
        }
        told.append(") = ").append(got).append('\n');
        if (got != want) {
            wrong++;
            told.append("    due is ").append(want).append('\n');
        }
        boolean steps = name.equals("step") || name.equals("to");
        if (steps && got == MotionStepper.WILD) seen[3]++;
        if (steps && got == MotionStepper.SMALL) seen[4]++;
        boolean infinite = (got & Long.MAX_VALUE) == 0x7FF0000000000000L;
        boolean none = got == MotionStepper.NONE;
        if (name.equals("state") && infinite) seen[5]++;
        if (name.equals("state") && none && isThere(args)) seen[6]++;
        if (name.equals("between") && infinite) seen[7]++;
        if (name.equals("between") && none && isThere(args) && args[2] > 0
                && args[2] < 1L << args[3] && desk.count((int) args[0], 2) > 0) seen[8]++;
        if (name.equals("value") && none && args[0] == 0 && args[1] == 1) seen[9]++;
        if (name.equals("halves") && !none) seen[10]++;
    }

    /** RUN and VARIABLE. */
    private boolean isThere(long[] args) {
        return !due.noVariable((int) args[0], (int) args[1]);
    }

    private void build() {
        int signals = below(3);
        for (int s = 0; s < signals; s++) {
            signal();
            for (int p = below(5); p > 0; p--) point();
        }
        int laws = 1 + below(3);
        for (int l = 0; l < laws; l++) {
            law();
            if (large) heights(l);
            for (int q = 3 + below(14); q > 0; q--) {
                if (below(4) == 0) constant(l);
                else node(l);
            }
            for (int i = 0; i < 6; i++) {
                if (below(30) > 0) side(l, i);
            }
        }
        for (int r = 1 + below(4); r > 0; r--) {
            run();
        }
    }

    /** NODES near the greatest double, early enough for others to be built of them. */
    private void heights(int l) {
        constant(l, 1L << 62, 0);
        node(l, 11, 0, 9, 0);
        node(l, 11, 0, 7, 0);
        node(l, 4, 1, 2, 0);
        constant(l, (1L << 10 + below(21)) - below(2), 0);
        node(l, 4, 3, 4, 0);
        node(l, 6, 5, 0, 0);
        node(l, 1, 0, 0, 0);
        constant(l, below(9) - 4, below(4));
        node(l, 3, 7, 8, 0);
        node(l, 10, 9, 5, below(8));
        node(l, 10, 9, 6, 5);
        // 0.0 ahead of a time, and none behind it.
        node(l, 3, 5, 5, 0);
        node(l, 5, 12, 12, 0);
        node(l, 10, 9, 12, 13);
    }

    private void law() {
        int n = below(3) == 0 ? 2 : 1 + below(6);
        int narrow = below(3) == 0 ? below(1 << n) : 0;
        if (below(20) == 0) n = near(7);
        if (below(20) == 0) narrow = chance.nextInt() >> below(32);
        check("law", desk.law(n, narrow), due.law(n, narrow), n, narrow);
    }

    private void constant(int l) {
        constant(l, amount(), power());
    }

    private void constant(int l, long n, int k) {
        check("constant", desk.constant(l, n, k), due.constant(l, n, k), l, n, k);
    }

    private void node(int l) {
        int nodes = Math.max(0, desk.many(3 + Math.max(0, Math.min(7, l))));
        int kind = below(5) == 0 ? 0 : near(13);
        int a = kind == 0 ? near(3) : near(nodes);
        int b = kind == 11 ? near(10) : kind == 12 ? near(desk.many(1)) : near(nodes);
        node(l, kind, a, b, near(nodes));
    }

    private void node(int l, int kind, int a, int b, int c) {
        check("node", desk.node(l, kind, a, b, c), due.node(l, kind, a, b, c), l, kind, a, b, c);
    }

    private void side(int l, int i) {
        int q = near(Math.max(0, desk.many(3 + Math.max(0, Math.min(7, l)))));
        if (large && below(3) > 0) q = 5 + below(10);
        check("side", desk.side(l, i, q), due.side(l, i, q), l, i, q);
    }

    private void signal() {
        int how = near(2);
        check("signal", desk.signal(how), due.signal(how), how);
    }

    private void point() {
        int s = near(desk.many(1));
        long t = below(3) == 0 ? amount() : below(60) - 20;
        long v = amount();
        int k = power();
        check("point", desk.point(s, t, v, k), due.point(s, t, v, k), s, t, v, k);
    }

    private void run() {
        int l = near(desk.many(0));
        long n = below(4) == 0 ? amount() : below(9) - 4;
        int k = power();
        check("run", desk.run(l, n, k), due.run(l, n, k), l, n, k);
    }

    private void one() {
        int r = near(desk.many(2));
        int dice = below(100);
        if (dice < 8) set(r);
        else if (dice < 12) method(r);
        else if (dice < 16) length(r);
        else if (dice < 19) tolerance(r);
        else if (dice < 23) event(r);
        else if (dice < 38) check("step", desk.step(r), due.step(r), r);
        else if (dice < 46) to(r);
        else if (dice < 52) kept(r);
        else if (dice < 55) laws();
        else look(r);
    }

    private void set(int r) {
        int i = near(3);
        long n = amount();
        int k = power();
        check("set", desk.set(r, i, n, k), due.set(r, i, n, k), r, i, n, k);
    }

    private void method(int r) {
        int m = below(3) == 0 ? 4 : near(7);
        check("method", desk.method(r, m), due.method(r, m), r, m);
    }

    private void length(int r) {
        long n = below(5) == 0 ? amount() : below(40) - 12;
        if (large && below(2) == 0) n = (below(2048) - 1024);
        int k = power();
        check("length", desk.length(r, n, k), due.length(r, n, k), r, n, k);
    }

    private void tolerance(int r) {
        long a = below(5) == 0 ? amount() : 1 + below(20);
        long b = below(5) == 0 ? amount() : below(3);
        int k = below(3) == 0 ? 30 : power();
        check("tolerance", desk.tolerance(r, a, b, k), due.tolerance(r, a, b, k), r, a, b, k);
    }

    private void event(int r) {
        int q = large && below(2) == 0 ? 9 : near(12);
        int direction = near(3) - 1;
        int action = below(3) == 0 ? 0 : near(4);
        int w = near(3);
        check("event", desk.event(r, q, direction, action, w),
                due.event(r, q, direction, action, w), r, q, direction, action, w);
    }

    private void to(int r) {
        long n = amount();
        int k = power();
        int most = below(4) == 0 ? near(201) : 1 + below(6);
        if (below(3) == 0) {
            double time = Double.longBitsToDouble(desk.clock(r, 0));
            double length = Double.longBitsToDouble(desk.clock(r, 1));
            k = below(31);
            n = (long) ((time + length * (1 + below(12)) / 3) * (1L << k));
        }
        check("to", desk.to(r, n, k, most), due.to(r, n, k, most), r, n, k, most);
    }

    private void kept(int r) {
        int p = near(4);
        int dice = below(4);
        if (dice == 0) check("keep", desk.keep(r, p), due.keep(r, p), r, p);
        else if (dice == 1) check("back", desk.back(r, p), due.back(r, p), r, p);
        else check("unlike", desk.unlike(r, p), due.unlike(r, p), r, p);
    }

    private void laws() {
        int l = near(desk.many(0));
        int dice = below(8);
        if (dice == 0) law();
        else if (dice == 1) constant(l);
        else if (dice == 2) node(l);
        else if (dice == 3) side(l, near(6));
        else if (dice == 4) signal();
        else if (dice == 5) run();
        else point();
    }

    private void look(int r) {
        int i = near(3);
        int dice = below(large ? 12 : 8);
        if (dice == 0 || dice > 9) {
            for (i = 0; i < 6; i++) check("state", desk.state(r, i), due.state(r, i), r, i);
        } else if (dice == 1) {
            int what = near(4);
            check("clock", desk.clock(r, what), due.clock(r, what), r, what);
        } else if (dice == 2) {
            int what = near(8);
            check("count", desk.count(r, what), due.count(r, what), r, what);
        } else if (dice == 3) {
            int j = near(7);
            check("stage", desk.stage(r, j, i), due.stage(r, j, i), r, j, i);
        } else if (dice == 4) {
            int q = near(20);
            check("value", desk.value(r, q), due.value(r, q), r, q);
        } else if (dice == 5 || dice > 7) {
            int k = below(6);
            long n = below(10) == 0 ? amount() : below((1 << k) + 1);
            check("between", desk.between(r, i, n, k), due.between(r, i, n, k), r, i, n, k);
        } else if (dice == 6) {
            int j = near(below(10) == 0 ? 70 : 4);
            int what = near(2);
            check("fired", desk.fired(r, j, what), due.fired(r, j, what), r, j, what);
        } else {
            check("halves", desk.halves(r, i), due.halves(r, i), r, i);
            int what = near(11);
            check("many", desk.many(what), due.many(what), what);
        }
    }
}
