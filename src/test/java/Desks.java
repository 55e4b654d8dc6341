/** Desks that several tests use. */
final class Desks {
    private Desks() {
    }

    /** LAW 0: x' = -x, NODES 0 x, 1 -x; RUN 0 of it at time 0, x = 1. */
    static MotionStepper decay() {
        MotionStepper x = new MotionStepper();
        x.law(1, 0);
        x.node(0, 0, 0, 0, 0);
        x.node(0, 6, 0, 0, 0);
        x.side(0, 0, 1);
        x.run(0, 0, 0);
        x.set(0, 0, 1, 0);
        return x;
    }

    /** LAW 0: x' = 1; NODES 0 t, 1 x, 2 the number 1, 3 x - 1; RUN 0 at time 0, x = 0, LENGTH 1. */
    static MotionStepper climb() {
        MotionStepper x = new MotionStepper();
        x.law(1, 0);
        x.node(0, 1, 0, 0, 0);
        x.node(0, 0, 0, 0, 0);
        x.constant(0, 1, 0);
        x.node(0, 3, 1, 2, 0);
        x.side(0, 0, 2);
        x.run(0, 0, 0);
        x.length(0, 1, 0);
        return x;
    }

    /** LAW 0: x0' = x1, x1' = t - x0; RUN 0 at time 1, x = (3, 2), LENGTH 0.375. */
    static MotionStepper swing(int narrow) {
        MotionStepper x = new MotionStepper();
        x.law(2, narrow);
        x.node(0, 0, 0, 0, 0);
        x.node(0, 0, 1, 0, 0);
        x.node(0, 1, 0, 0, 0);
        x.node(0, 3, 2, 0, 0);
        x.side(0, 0, 1);
        x.side(0, 1, 3);
        x.run(0, 1, 0);
        x.set(0, 0, 3, 0);
        x.set(0, 1, 2, 0);
        x.length(0, 3, 3);
        return x;
    }

    /**
     * LAW 0: x' = 0 up to time 0, 2^62 behind it: no PAIR from time 0 on is ever TAKEN; NODES 0 x,
     * 1 t. RUN 0 of it at time 0 by PAIR, with the least TOLERANCE.
     */
    static MotionStepper jump() {
        LawMaker law = new LawMaker(new MotionStepper(), 1, 0);
        law.state(0);
        int ahead = law.node(6, law.time(), 0, 0);
        law.side(0, law.node(10, ahead, law.constant(1L << 62, 0), law.constant(0, 0)));
        law.run(0, 0);
        law.desk.method(0, 4);
        law.desk.tolerance(0, 1, 0, 30);
        return law.desk;
    }
}
