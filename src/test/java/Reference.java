import java.util.ArrayList;
import java.util.List;

/**
 * The document once more, written for reading: with the machine's own NaN, lists and fresh rows.
 * FuzzTest holds the answers of MotionStepper against those of this class.
 */
final class Reference {
    static final int NUMBER = -1, STATE = -2, FULL = -3, WILD = -4, SMALL = -5;
    static final long NONE = 0x7FF8000000000000L;

    static final class SignalR {
        boolean line;
        List<double[]> points = new ArrayList<>();

        double at(double a) {
            int n = points.size();
            if (n == 0) return 0.0;
            if (Double.isNaN(a)) return a;
            if (a <= points.get(0)[0]) return points.get(0)[1];
            if (a >= points.get(n - 1)[0]) return points.get(n - 1)[1];
            int p = n - 1;
            while (points.get(p)[0] > a) p--;
            double[] at = points.get(p), next = points.get(p + 1);
            if (!line || at[0] == a) return at[1];
            return at[1] + (next[1] - at[1]) * ((a - at[0]) / (next[0] - at[0]));
        }
    }

    static final class NodeR {
        int kind, a, b, c;
        double number;
    }

    final class LawR {
        int n, narrow;
        List<NodeR> nodes = new ArrayList<>();
        int[] side;

        double value(int q, double t, double[] x) {
            double[] v = new double[q + 1];
            for (int i = 0; i <= q; i++) v[i] = one(nodes.get(i), v, t, x);
            return v[q];
        }

        private double one(NodeR m, double[] v, double t, double[] x) {
            switch (m.kind) {
                case 0: return x[m.a];
                case 1: return t;
                case 2: return v[m.a] + v[m.b];
                case 3: return v[m.a] - v[m.b];
                case 4: return v[m.a] * v[m.b];
                case 5: return v[m.a] / v[m.b];
                case 6: return -v[m.a];
                case 7: return Math.abs(v[m.a]);
                case 8: return Math.min(v[m.a], v[m.b]);
                case 9: return Math.max(v[m.a], v[m.b]);
                case 10: return v[m.a] < 0 ? v[m.b] : v[m.c];
                case 11: {
                    double p = 1.0;
                    for (int i = 0; i < m.b; i++) p = p * v[m.a];
                    return p;
                }
                case 12: return signals.get(m.b).at(v[m.a]);
                default: return m.number;
            }
        }

        double[] f(double t, double[] x) {
            double[] row = new double[n];
            for (int i = 0; i < n; i++) row[i] = value(side[i], t, x);
            return row;
        }

        double put(int i, double a) {
            return (narrow & 1 << i) != 0 ? (float) a : a;
        }

        boolean ready() {
            for (int q : side) if (q < 0) return false;
            return true;
        }
    }

    /** One step of a written method. */
    static final class StepR {
        LawR law;
        int method, gap;
        double t0, h, error;
        double[] x0, x1, f1, e;
        double[][] k = new double[4][];
        boolean wild;

        static StepR make(LawR law, int method, double t, double[] x, double h) {
            StepR s = new StepR();
            s.law = law;
            s.method = method;
            s.t0 = t;
            s.h = h;
            s.x0 = x.clone();
            s.go();
            s.wild |= !fine(s.x1) || !Double.isFinite(t + h) || s.e != null && !fine(s.e);
            for (double[] row : s.k) if (row != null) s.wild |= !fine(row);
            return s;
        }

        static boolean fine(double[] row) {
            for (double a : row) if (!Double.isFinite(a)) return false;
            return true;
        }

        private void go() {
            int n = law.n;
            double t = t0, g = h / 2;
            double[] x = x0, y = new double[n], z = new double[n];
            double[] k1 = law.f(t, x), k2, k3, k4;
            k[0] = k1;
            x1 = z;
            if (method == 0) {
                for (int i = 0; i < n; i++) z[i] = law.put(i, x[i] + h * k1[i]);
            } else if (method == 5) {
                for (int i = 0; i < n; i++) y[i] = law.put(i, x[i] + h * k1[i]);
                for (int times = 0; times < 6; times++) {
                    k[1] = k2 = law.f(t + h, y);
                    wild |= !fine(k2);
                    z = new double[n];
                    gap = 0;
                    for (int i = 0; i < n; i++) {
                        z[i] = law.put(i, x[i] + h * k2[i]);
                        if (z[i] != y[i]) gap++;
                    }
                    y = z;
                }
                x1 = y;
            } else if (method == 6) {
                for (int i = 0; i < n; i++) y[i] = i < n / 2 ? x[i] : law.put(i, x[i] + g * k1[i]);
                k[1] = k2 = law.f(t + g, y);
                for (int i = 0; i < n; i++) z[i] = i < n / 2 ? law.put(i, x[i] + h * k2[i]) : y[i];
                k[2] = k3 = law.f(t + h, z);
                for (int i = n / 2; i < n; i++) z[i] = law.put(i, y[i] + g * k3[i]);
            } else {
                for (int i = 0; i < n; i++) y[i] = law.put(i, x[i] + g * k1[i]);
                k[1] = k2 = law.f(t + g, y);
                if (method == 1) {
                    for (int i = 0; i < n; i++) z[i] = law.put(i, x[i] + h * k2[i]);
                } else if (method == 2) {
                    for (int i = 0; i < n; i++) y[i] = law.put(i, x[i] + h * (2 * k2[i] - k1[i]));
                    k[2] = k3 = law.f(t + h, y);
                    for (int i = 0; i < n; i++)
                        z[i] = law.put(i, x[i] + (h / 6) * ((k1[i] + 4 * k2[i]) + k3[i]));
                } else if (method == 3) {
                    for (int i = 0; i < n; i++) y[i] = law.put(i, x[i] + g * k2[i]);
                    k[2] = k3 = law.f(t + g, y);
                    for (int i = 0; i < n; i++) y[i] = law.put(i, x[i] + h * k3[i]);
                    k[3] = k4 = law.f(t + h, y);
                    for (int i = 0; i < n; i++)
                        z[i] = law.put(i, x[i] + (h / 6) * (((k1[i] + 2 * k2[i]) + 2 * k3[i]) + k4[i]));
                } else {
                    double d = (3 * h) / 4;
                    for (int i = 0; i < n; i++) y[i] = law.put(i, x[i] + d * k2[i]);
                    k[2] = k3 = law.f(t + d, y);
                    for (int i = 0; i < n; i++)
                        z[i] = law.put(i, x[i] + (h / 9) * ((2 * k1[i] + 3 * k2[i]) + 4 * k3[i]));
                    k[3] = k4 = law.f(t + h, z);
                    e = new double[n];
                    for (int i = 0; i < n; i++)
                        e[i] = (h / 72) * (((6 * k2[i] + 8 * k3[i]) - 5 * k1[i]) - 9 * k4[i]);
                }
            }
        }

        double between(int i, double s) {
            if (s == 0) return x0[i];
            if (s == 1) return x1[i];
            double u = 1 - s;
            return law.put(i, (u * u) * ((1 + 2 * s) * x0[i] + (s * h) * k[0][i])
                    + (s * s) * ((1 + 2 * u) * x1[i] - (u * h) * f1[i]));
        }

        double[] betweenAll(double s) {
            double[] row = new double[law.n];
            for (int i = 0; i < row.length; i++) row[i] = between(i, s);
            return row;
        }
    }

    static final class RunR {
        LawR law;
        int lawNumber, method, taken, rejected;
        double time, length = 0.125, a = 1.0 / (1 << 20), b = 0;
        double[] x;
        boolean ended;
        List<int[]> events = new ArrayList<>();
        List<Integer> firedNumbers = new ArrayList<>();
        List<Double> firedTimes = new ArrayList<>();
        StepR last;

        RunR copy() {
            RunR c = new RunR();
            c.become(this);
            return c;
        }

        void become(RunR o) {
            law = o.law;
            lawNumber = o.lawNumber;
            method = o.method;
            taken = o.taken;
            rejected = o.rejected;
            time = o.time;
            length = o.length;
            a = o.a;
            b = o.b;
            x = o.x.clone();
            ended = o.ended;
            events = new ArrayList<>(o.events);
            firedNumbers = new ArrayList<>(o.firedNumbers);
            firedTimes = new ArrayList<>(o.firedTimes);
            last = o.last;
        }

        /** cutTo is null if the step is not CUT. */
        int advance(double first, Double cutTo) {
            double h = first;
            int rejections = 0;
            StepR s;
            while (true) {
                if (rejections == 20) return SMALL;
                s = StepR.make(law, method, time, x, h);
                if (s.wild) return WILD;
                if (method != 4) break;
                for (int i = 0; i < law.n; i++) {
                    double m = Math.max(Math.abs(s.x0[i]), Math.abs(s.x1[i]));
                    s.error = Math.max(s.error, Math.abs(s.e[i]) / (a + b * m));
                }
                if (s.error <= 1) break;
                rejections++;
                h = s.error <= 8 ? h / 2 : h / 4;
                if (Math.abs(h) < Math.pow(2, -30)) return SMALL;
            }
            s.f1 = law.f(s.t0 + h, s.x1);
            last = s;
            taken++;
            rejected += rejections;
            x = s.x1.clone();
            time = s.t0 + h;
            boolean asCut = cutTo != null && rejections == 0;
            if (asCut) time = cutTo;
            if (method == 4 && rejections > 0) length = h;
            if (method == 4 && rejections == 0 && !asCut) {
                double longer = s.error <= 1 / 64.0 ? h * 4 : s.error <= 1 / 8.0 ? h * 2 : h;
                length = Math.abs(longer) > 1024 ? Math.signum(longer) * 1024 : longer;
            }
            events();
            return rejections;
        }

        void events() {
            StepR s = last;
            List<double[]> come = new ArrayList<>();
            for (int j = 0; j < events.size(); j++) {
                int[] event = events.get(j);
                double before = law.value(event[0], s.t0, s.x0);
                double after = law.value(event[0], s.t0 + s.h, s.x1);
                boolean rise = before < 0 && after >= 0 && event[1] != -1;
                boolean fall = before > 0 && after <= 0 && event[1] != 1;
                if (!rise && !fall) continue;
                double low = 0, high = 1;
                for (int times = 0; times < 30; times++) {
                    double mid = (low + high) / 2;
                    double there = law.value(event[0], s.t0 + mid * s.h, s.betweenAll(mid));
                    if (rise ? there >= 0 : there <= 0) high = mid;
                    else low = mid;
                }
                come.add(new double[] {high, j});
            }
            come.sort((p, q) -> p[0] != q[0] ? Double.compare(p[0], q[0]) : Double.compare(p[1], q[1]));
            for (double[] one : come) {
                int[] event = events.get((int) one[1]);
                double at = s.t0 + one[0] * s.h;
                firedNumbers.add((int) one[1]);
                firedTimes.add(at);
                if (event[2] == 0) continue;
                if (one[0] != 1) {
                    x = s.betweenAll(one[0]);
                    time = at;
                }
                if (event[2] == 1) ended = true;
                if (event[2] == 2) {
                    int w = event[3] >= 0 && event[3] < law.n ? event[3] : 0;
                    x[w] = -x[w];
                }
                return;
            }
        }
    }

    final List<LawR> laws = new ArrayList<>();
    final List<SignalR> signals = new ArrayList<>();
    final List<RunR> runs = new ArrayList<>();
    final RunR[] kept = new RunR[4];

    static double num(long n, int k) {
        return (double) n / Math.pow(2, k);
    }

    static long bits(double a) {
        return Double.doubleToLongBits(a);
    }

    boolean noLaw(int l) {
        return l < 0 || l >= laws.size();
    }

    boolean noRun(int r) {
        return r < 0 || r >= runs.size();
    }

    boolean noVariable(int r, int i) {
        return noRun(r) || i < 0 || i >= runs.get(r).law.n;
    }

    static boolean badK(int k) {
        return k < 0 || k > 30;
    }

    int law(int n, int narrow) {
        if (n < 1 || n > 6 || (narrow & -(1 << n)) != 0) return NUMBER;
        if (laws.size() == 8) return FULL;
        LawR law = new LawR();
        law.n = n;
        law.narrow = narrow;
        law.side = new int[n];
        java.util.Arrays.fill(law.side, -1);
        laws.add(law);
        return laws.size() - 1;
    }

    int add(int l, NodeR node) {
        List<NodeR> nodes = laws.get(l).nodes;
        if (nodes.size() == 48) return FULL;
        nodes.add(node);
        return nodes.size() - 1;
    }

    int constant(int l, long n, int k) {
        if (noLaw(l) || badK(k)) return NUMBER;
        NodeR node = new NodeR();
        node.kind = 99;
        node.number = num(n, k);
        return add(l, node);
    }

    int node(int l, int kind, int a, int b, int c) {
        if (noLaw(l) || kind < 0 || kind > 12) return NUMBER;
        int count = laws.get(l).nodes.size();
        boolean needsA = kind >= 2;
        boolean needsB = kind >= 2 && kind <= 5 || kind >= 8 && kind <= 10;
        if (kind == 0 && (a < 0 || a >= laws.get(l).n)) return NUMBER;
        if (needsA && (a < 0 || a >= count)) return NUMBER;
        if (needsB && (b < 0 || b >= count)) return NUMBER;
        if (kind == 10 && (c < 0 || c >= count)) return NUMBER;
        if (kind == 11 && (b < 0 || b > 9)) return NUMBER;
        if (kind == 12 && (b < 0 || b >= signals.size())) return NUMBER;
        NodeR node = new NodeR();
        node.kind = kind;
        node.a = a;
        node.b = b;
        node.c = c;
        return add(l, node);
    }

    int side(int l, int i, int q) {
        if (noLaw(l)) return NUMBER;
        LawR law = laws.get(l);
        if (i < 0 || i >= law.n || q < 0 || q >= law.nodes.size()) return NUMBER;
        for (RunR run : runs) if (run.lawNumber == l) return STATE;
        law.side[i] = q;
        return 1;
    }

    int signal(int how) {
        if (how != 0 && how != 1) return NUMBER;
        if (signals.size() == 8) return FULL;
        SignalR signal = new SignalR();
        signal.line = how == 1;
        signals.add(signal);
        return signals.size() - 1;
    }

    int point(int s, long t, long v, int k) {
        if (s < 0 || s >= signals.size() || badK(k)) return NUMBER;
        List<double[]> points = signals.get(s).points;
        int n = points.size();
        if (n > 0 && !(num(t, k) > points.get(n - 1)[0])) return STATE;
        if (n == 16) return FULL;
        points.add(new double[] {num(t, k), num(v, k)});
        return n;
    }

    int many(int what) {
        if (what == 0) return laws.size();
        if (what == 1) return signals.size();
        if (what == 2) return runs.size();
        if (what < 3 || what > 10) return NUMBER;
        return noLaw(what - 3) ? 0 : laws.get(what - 3).nodes.size();
    }

    int run(int l, long n, int k) {
        if (noLaw(l) || badK(k)) return NUMBER;
        if (!laws.get(l).ready()) return STATE;
        if (runs.size() == 4) return FULL;
        RunR run = new RunR();
        run.law = laws.get(l);
        run.lawNumber = l;
        run.time = num(n, k);
        run.x = new double[run.law.n];
        runs.add(run);
        return runs.size() - 1;
    }

    int set(int r, int i, long n, int k) {
        if (noVariable(r, i) || badK(k)) return NUMBER;
        RunR run = runs.get(r);
        if (run.ended) return STATE;
        run.x[i] = run.law.put(i, num(n, k));
        return 1;
    }

    int method(int r, int m) {
        if (noRun(r) || m < 0 || m > 6) return NUMBER;
        if (m == 6 && runs.get(r).law.n % 2 == 1) return STATE;
        runs.get(r).method = m;
        return 1;
    }

    int length(int r, long n, int k) {
        if (noRun(r) || badK(k)) return NUMBER;
        double size = Math.abs(num(n, k));
        if (size < Math.pow(2, -30) || size > 1024) return NUMBER;
        runs.get(r).length = num(n, k);
        return 1;
    }

    int tolerance(int r, long a, long b, int k) {
        if (noRun(r) || badK(k) || a < 1 || b < 0) return NUMBER;
        runs.get(r).a = num(a, k);
        runs.get(r).b = num(b, k);
        return 1;
    }

    int event(int r, int q, int direction, int action, int w) {
        if (noRun(r) || q < 0 || q >= runs.get(r).law.nodes.size()) return NUMBER;
        if (direction < -1 || direction > 1 || action < 0 || action > 3) return NUMBER;
        List<int[]> events = runs.get(r).events;
        if (events.size() == 4) return FULL;
        events.add(new int[] {q, direction, action, w});
        return events.size() - 1;
    }

    int step(int r) {
        if (noRun(r)) return NUMBER;
        if (runs.get(r).ended) return STATE;
        return runs.get(r).advance(runs.get(r).length, null);
    }

    int to(int r, long n, int k, int most) {
        if (noRun(r) || badK(k) || most < 1 || most > 200) return NUMBER;
        RunR run = runs.get(r);
        double target = num(n, k);
        if (run.ended) return STATE;
        if (target == run.time) return 0;
        if (Math.signum(target - run.time) != Math.signum(run.length)) return STATE;
        RunR before = run.copy();
        for (int taken = 0; ; taken++) {
            if (taken == most || run.ended || run.time == target) return taken;
            double rest = target - run.time;
            int answer = Math.abs(rest) <= Math.abs(run.length)
                    ? run.advance(rest, target) : run.advance(run.length, null);
            if (answer < 0) {
                run.become(before);
                return answer;
            }
        }
    }

    long state(int r, int i) {
        return noVariable(r, i) ? NONE : bits(runs.get(r).x[i]);
    }

    long clock(int r, int what) {
        if (noRun(r) || what < 0 || what > 3) return NONE;
        RunR run = runs.get(r);
        if (what == 0) return bits(run.time);
        if (what == 1) return bits(run.length);
        if (run.last == null) return bits(0.0);
        return bits(what == 2 ? run.last.error : run.last.h);
    }

    int count(int r, int what) {
        if (noRun(r) || what < 0 || what > 7) return NUMBER;
        RunR run = runs.get(r);
        int gap = run.last == null ? 0 : run.last.gap;
        return new int[] {run.lawNumber, run.method, run.taken, run.rejected, gap,
            run.ended ? 1 : 0, run.events.size(), run.firedNumbers.size()}[what];
    }

    long stage(int r, int j, int i) {
        if (noVariable(r, i) || runs.get(r).last == null || j < 1 || j > 5) return NONE;
        StepR last = runs.get(r).last;
        double[] row = j == 5 ? last.e : last.k[j - 1];
        return row == null ? NONE : bits(row[i]);
    }

    long value(int r, int q) {
        if (noRun(r) || q < 0 || q >= runs.get(r).law.nodes.size()) return NONE;
        return bits(runs.get(r).law.value(q, runs.get(r).time, runs.get(r).x));
    }

    long between(int r, int i, long n, int k) {
        if (noVariable(r, i) || runs.get(r).last == null || badK(k)) return NONE;
        double s = num(n, k);
        return s < 0 || s > 1 ? NONE : bits(runs.get(r).last.between(i, s));
    }

    long fired(int r, int j, int what) {
        if (noRun(r) || j < 0 || j > 63 || j >= runs.get(r).firedNumbers.size()) return NONE;
        if (what == 0) return runs.get(r).firedNumbers.get(j);
        return what == 1 ? bits(runs.get(r).firedTimes.get(j)) : NONE;
    }

    long halves(int r, int i) {
        if (noVariable(r, i) || runs.get(r).ended) return NONE;
        RunR run = runs.get(r);
        double h = run.length;
        StepR whole = StepR.make(run.law, run.method, run.time, run.x, h);
        StepR one = StepR.make(run.law, run.method, run.time, run.x, h / 2);
        StepR two = StepR.make(run.law, run.method, run.time + h / 2, one.x1, h / 2);
        return whole.wild || one.wild || two.wild ? NONE : bits(two.x1[i] - whole.x1[i]);
    }

    int keep(int r, int p) {
        if (noRun(r) || p < 0 || p > 3) return NUMBER;
        kept[p] = runs.get(r).copy();
        return 1;
    }

    int back(int r, int p) {
        if (noRun(r) || p < 0 || p > 3) return NUMBER;
        if (kept[p] == null) return STATE;
        runs.get(r).become(kept[p]);
        return 1;
    }

    int unlike(int r, int p) {
        if (noRun(r) || p < 0 || p > 3) return NUMBER;
        if (kept[p] == null) return STATE;
        RunR run = runs.get(r), there = kept[p];
        int found = bits(run.time) != bits(there.time) ? 1 : 0;
        if (bits(run.length) != bits(there.length)) found++;
        for (int i = 0; i < 6; i++) {
            boolean here = i < run.law.n, also = i < there.law.n;
            if (here != also || here && bits(run.x[i]) != bits(there.x[i])) found++;
        }
        return found;
    }
}
