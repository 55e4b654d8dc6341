/** Makes NODES of a LAW, of any double too: those have no call of their own. */
final class LawMaker {
    final MotionStepper desk;
    final int law;

    LawMaker(MotionStepper desk, int n, int narrow) {
        this.desk = desk;
        law = desk.law(n, narrow);
        need(law);
    }

    private static int need(int answer) {
        if (answer < 0) {
            throw new IllegalStateException("a desk of the tests was refused: " + answer);
        }
        return answer;
    }

    int node(int kind, int a, int b, int c) {
        return need(desk.node(law, kind, a, b, c));
    }

    int constant(long n, int k) {
        return need(desk.constant(law, n, k));
    }

    int state(int i) {
        return node(0, i, 0, 0);
    }

    int time() {
        return node(1, 0, 0, 0);
    }

    /** A NODE of the value a. */
    int number(double a) {
        if (Double.isNaN(a)) {
            int zero = constant(0, 0);
            return node(5, zero, zero, 0);
        }
        if (Double.isInfinite(a)) {
            return node(5, constant(a > 0 ? 1 : -1, 0), constant(0, 0), 0);
        }
        if (a == 0) {
            int zero = constant(0, 0);
            return 1 / a < 0 ? node(6, zero, 0, 0) : zero;
        }
        double scaled = a * 0x1p30;
        if (Math.abs(scaled) < 0x1p62 && scaled == Math.rint(scaled) && scaled / 0x1p30 == a) {
            return constant((long) scaled, 30);
        }
        long bits = Double.doubleToLongBits(a);
        int exponent = (int) (bits >> 52 & 0x7FF);
        long part = bits & (1L << 52) - 1 | (exponent == 0 ? 0 : 1L << 52);
        int power = Math.max(exponent, 1) - 1075;
        return scaled(constant(a < 0 ? -part : part, 0), power);
    }

    /** NODE q, times 2 to the power: no part of the way rounds if its end is a double. */
    private int scaled(int q, int power) {
        int kind = power < 0 ? 5 : 4;
        int size = Math.abs(power);
        int many = size / 62;
        int result = q;
        if (many > 0) {
            int large = constant(1L << 62, 0);
            result = node(kind, result, node(11, large, Math.min(many, 9), 0), 0);
            if (many > 9) {
                result = node(kind, result, node(11, large, many - 9, 0), 0);
            }
        }
        return node(kind, result, constant(1L << size % 62, 0), 0);
    }

    /** b where NODE a is below the limit, else c. */
    int below(int a, double limit, int b, int c) {
        return node(10, node(3, a, number(limit), 0), b, c);
    }

    /** The first of the values while NODE a is below the first limit, and so on; behind it the last. */
    int table(int a, double[] limits, double[] values) {
        int result = number(values[limits.length]);
        for (int i = limits.length - 1; i >= 0; i--) {
            result = below(a, limits[i], number(values[i]), result);
        }
        return result;
    }

    LawMaker side(int i, int q) {
        need(desk.side(law, i, q));
        return this;
    }

    /** A RUN at time n / 2^k. */
    int run(long n, int k) {
        return need(desk.run(law, n, k));
    }
}
