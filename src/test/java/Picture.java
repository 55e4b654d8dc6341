import java.util.ArrayList;
import java.util.List;

/**
 * All that a desk tells, then what it does behind that: what no call tells (TOLERANCES, EVENTS,
 * POINTS, SIDES, what is kept) shows in the steps and calls that follow.
 */
final class Picture {
    private final MotionStepper desk;
    private final List<String> rows = new ArrayList<>();

    private Picture(MotionStepper desk) {
        this.desk = desk;
    }

    static List<String> of(MotionStepper desk) {
        Picture picture = new Picture(desk);
        picture.look();
        picture.goOn();
        return picture.rows;
    }

    private void row(String what, long answer) {
        rows.add(what + " = " + answer);
    }

    private void look() {
        for (int what = 0; what <= 10; what++) {
            row("many " + what, desk.many(what));
        }
        for (int r = 0; r < desk.many(2); r++) {
            lookAtRun("run " + r, r);
            for (int p = 0; p < 4; p++) {
                row("run " + r + " unlike " + p, desk.unlike(r, p));
            }
        }
    }

    private void lookAtRun(String name, int r) {
        for (int what = 0; what < 8; what++) {
            row(name + " count " + what, desk.count(r, what));
        }
        for (int what = 0; what < 4; what++) {
            row(name + " clock " + what, desk.clock(r, what));
        }
        for (int j = 0; j < 2; j++) {
            row(name + " fired " + j, desk.fired(r, j, 0));
            row(name + " fired at " + j, desk.fired(r, j, 1));
        }
        row(name + " value", desk.value(r, desk.many(3 + desk.count(r, 0)) - 1));
        for (int i = 0; i < 2; i++) {
            row(name + " state " + i, desk.state(r, i));
            row(name + " between " + i, desk.between(r, i, 1, 2));
            row(name + " halves " + i, desk.halves(r, i));
            for (int j = 1; j <= 5; j++) {
                row(name + " stage " + j + " of " + i, desk.stage(r, j, i));
            }
        }
    }

    private void goOn() {
        for (int r = 0; r < desk.many(2); r++) {
            row("step of run " + r, desk.step(r));
            row("its state", desk.state(r, 0));
            row("its time", desk.clock(r, 0));
            row("its length", desk.clock(r, 1));
            row("its error", desk.clock(r, 2));
            row("fired then", desk.count(r, 7));
            row("another event of run " + r, desk.event(r, 0, 0, 0, 0));
        }
        for (int p = 0; p < 4; p++) {
            if (desk.back(0, p) == 1) {
                lookAtRun("kept in " + p, 0);
            }
        }
        for (int s = 0; s < desk.many(1); s++) {
            row("another point of signal " + s, desk.point(s, Long.MAX_VALUE, 7, 0));
        }
        for (int l = 0; l < desk.many(0); l++) {
            row("another node of law " + l, desk.constant(l, 1, 0));
            row("another run of law " + l, desk.run(l, 0, 0));
        }
        row("another signal", desk.signal(0));
        row("another law", desk.law(1, 0));
    }
}
