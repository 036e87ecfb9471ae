import java.lang.reflect.InvocationTargetException;

/** The boundary cases of promises 7 to 13: what solve() finds, and what is read off it. */
public final class PlanEdgeTest extends Edges {
    public static void main(String[] args) throws IllegalAccessException, InvocationTargetException {
        new PlanEdgeTest().holdEachSentence();
    }

    @Sentence("0: there are STARTS; 1: a CIRCLE.")
    void promise7ZeroAndOne() {
        due.is("nothing told", new TightDesk().solve(), 0);
        TightDesk desk = told(row(0), row(-1, 0, 1000));
        due.is("at 1000", desk.solve(), 0);
        desk.constrain(0, -1, -1000);
        due.is("at 1000 alone", desk.solve(), 0);
        desk.constrain(0, -1, -999);
        due.is("at 999 at the latest", desk.solve(), 1);
        due.is("the same again", desk.solve(), 1);
        desk.drop(2);
        due.is("without that", desk.solve(), 0);
        desk.constrain(0, 0, 1);
        due.is("after itself", desk.solve(), 1);
    }

    @Sentence("0: there are STARTS; 1: a CIRCLE.")
    void promise7AllPlaces() {
        for (int over = 0; over <= 1; over++) {
            TightDesk round = fullOfTasks(1000);
            for (int t = 29; t > 0; t--) {
                round.constrain(t - 1, t, 1);
            }
            round.constrain(29, 0, -29 + over);
            due.is("through all tasks, " + over, round.solve(), over);
            TightDesk origin = fullOfTasks(0);
            for (int t = 29; t > 0; t--) {
                origin.constrain(t, t - 1, -1);
            }
            origin.constrain(-1, 29, 30);
            origin.constrain(0, -1, -1 + over);
            due.is("through the origin, too, " + over, origin.solve(), over);
        }
    }

    @Sentence("NONE: no such TASK")
    void promise8NoSuchTask() {
        TightDesk desk = desk(1, 1);
        noSuchTask("no answers", desk);
        desk.solve();
        noSuchTask("starts", desk);
        desk.constrain(0, 0, 1);
        noSuchTask("stale", desk);
        desk.solve();
        noSuchTask("a circle", desk);
        due.is("without tasks", solved(row()).start(0, 0), NONE);
    }

    private void noSuchTask(String name, TightDesk desk) {
        for (int wrong : row(2, 29, 30, 31, MOST, -1, -2, LEAST)) {
            for (int what = 0; what <= 3; what++) {
                due.is(name + ": start(" + wrong + ", " + what + ")", desk.start(wrong, what), NONE);
            }
        }
    }

    @Sentence("NONE: no such .. what")
    void promise8NoSuchWhat() {
        TightDesk desk = desk(1, 1);
        noSuchStart("no answers", desk);
        desk.solve();
        noSuchStart("starts", desk);
        desk.constrain(0, 0, 1);
        noSuchStart("stale", desk);
        desk.solve();
        noSuchStart("a circle", desk);
    }

    private void noSuchStart(String name, TightDesk desk) {
        for (int wrong : row(4, 5, 100, MOST, -1, -2, LEAST)) {
            due.is(name + ": start(0, " + wrong + ")", desk.start(0, wrong), NONE);
        }
    }

    @Sentence("then STALE: no ANSWERS, or a CIRCLE.")
    void promise8Stale() {
        TightDesk desk = desk(1, 1);
        for (int what = 0; what <= 3; what++) {
            due.is("no answers: start(1, " + what + ")", desk.start(1, what), STALE);
        }
        desk.solve();
        desk.task(1);
        for (int what = 0; what <= 3; what++) {
            due.is("stale: start(1, " + what + ")", desk.start(1, what), STALE);
            due.is("stale: start(2, " + what + "), a new task", desk.start(2, what), STALE);
        }
        desk.constrain(0, 0, 1);
        desk.solve();
        for (int what = 0; what <= 3; what++) {
            due.is("a circle: start(1, " + what + ")", desk.start(1, what), STALE);
        }
    }

    @Sentence("LENGTH; STALE likewise.")
    void promise9Stale() {
        TightDesk desk = new TightDesk();
        due.is("no answers", desk.length(), STALE);
        desk.solve();
        due.is("nothing told", desk.length(), 0);
        desk.task(3);
        due.is("stale", desk.length(), STALE);
        desk.solve();
        due.is("a task", desk.length(), 3);
        desk.constrain(0, 0, 1);
        desk.solve();
        due.is("a circle", desk.length(), STALE);
        desk.drop(0);
        desk.solve();
        due.is("no circle any more", desk.length(), 3);
    }

    @Sentence("TASK i of THE CHAIN (what 0) .. NONE if there is none such")
    void promise10Chain() {
        TightDesk desk = solved(row(1, 1, 1), row(2, 1, 1), row(1, 0, 1));
        due.row("three", desk, 0, 2, 1, 0);
        for (int wrong : row(3, 4, 30, 31, MOST, -1, -2, LEAST)) {
            due.is("row(0, " + wrong + ")", desk.row(0, wrong), NONE);
        }
        due.is("no chain: row(0, 0)", solved(row(1), row(-1, 0, 1)).row(0, 0), NONE);
        due.is("no tasks: row(0, 0)", solved(row()).row(0, 0), NONE);
        due.is("a circle: row(0, 0)", withCircle().row(0, 0), NONE);
        TightDesk shorter = solved(row(1, 1), row(0, 1, 1));
        shorter.drop(0);
        shorter.solve();
        due.row("none is left of a longer one", shorter, 0, 0);
    }

    @Sentence("number i of the CIRCLE (1). NONE if there is none such")
    void promise10Circle() {
        TightDesk desk = solved(row(1, 1), row(1, 0, 1), row(0, 1, 0));
        due.row("two", desk, 1, 0, 1);
        for (int wrong : row(2, 3, 30, 31, 32, MOST, -1, -2, LEAST)) {
            due.is("row(1, " + wrong + ")", desk.row(1, wrong), NONE);
        }
        desk.constrain(1, 1, 1);
        desk.solve();
        due.row("none is left of a longer one", desk, 1, 2);
        desk.drop(2);
        desk.drop(1);
        desk.solve();
        due.is("starts: row(1, 0)", desk.row(1, 0), NONE);
    }

    @Sentence("TASK i of THE CHAIN (what 0), number i of the CIRCLE (1). NONE if there is none such")
    void promise10NoSuchWhat() {
        for (int wrong : row(2, 3, MOST, -1, -2, LEAST)) {
            due.is("starts: row(" + wrong + ", 0)", solved(row(1)).row(wrong, 0), NONE);
            due.is("a circle: row(" + wrong + ", 0)", withCircle().row(wrong, 0), NONE);
        }
    }

    @Sentence("NONE if .. STALE ones")
    void promise10Stale() {
        TightDesk none = desk(1);
        due.is("no answers: row(0, 0)", none.row(0, 0), NONE);
        due.is("no answers: row(1, 0)", none.row(1, 0), NONE);
        TightDesk chain = solved(row(1));
        due.is("row(0, 0)", chain.row(0, 0), 0);
        chain.task(1);
        due.is("stale: row(0, 0)", chain.row(0, 0), NONE);
        TightDesk circle = withCircle();
        due.is("row(1, 0)", circle.row(1, 0), 0);
        circle.task(1);
        due.is("stale: row(1, 0)", circle.row(1, 0), NONE);
        circle.worker();
        circle.solve();
        circle.worker();
        due.is("a worker spoils no row", circle.row(1, 0), 0);
    }

    @Sentence("LENGTH as it would be if a TASK started by (0 .. 1000) later than its EARLIEST, at the least")
    void promise11LeastAndMost() {
        TightDesk desk = solved(row(2, 3, 9), row(0, 1, 4), row(-1, 0, 1));
        due.is("delay(0, 0)", desk.delay(0, 0), 9);
        due.is("delay(0, 1), as long as before", desk.delay(0, 1), 9);
        due.is("delay(0, 2), one longer", desk.delay(0, 2), 10);
        due.is("delay(0, 1000)", desk.delay(0, 1000), 1008);
        due.is("delay(1, 1000)", desk.delay(1, 1000), 1008);
        due.is("delay(2, 1000)", desk.delay(2, 1000), 1009);
        due.is("delay(0, 999)", desk.delay(0, 999), 1007);
        due.is("the plan is as before", desk.start(0, 0), 1);
        due.is("of duration 0", solved(row(0)).delay(0, 1000), 1000);
    }

    @Sentence("if a TASK started by (0 .. 1000) later than its EARLIEST, at the least")
    void promise11TheLastOfALongRow() {
        TightDesk desk = fullOfTasks(1000);
        for (int t = 29; t > 0; t--) {
            desk.constrain(t - 1, t, 1000);
        }
        desk.solve();
        due.is("delay(0, 1000)", desk.delay(0, 1000), 31000);
        due.is("delay(29, 1000)", desk.delay(29, 1000), 31000);
        due.is("delay(29, 0)", desk.delay(29, 0), 30000);
    }

    @Sentence("-3 if there would be no STARTS")
    void promise11NoStarts() {
        TightDesk desk = solved(row(1, 1), row(0, 1, 5), row(1, -1, -7));
        due.is("delay(0, 2)", desk.delay(0, 2), 8);
        due.is("delay(0, 3)", desk.delay(0, 3), -3);
        due.is("delay(1, 2)", desk.delay(1, 2), 8);
        due.is("delay(1, 3)", desk.delay(1, 3), -3);
        due.is("delay(1, 1000)", desk.delay(1, 1000), -3);
        due.is("the plan is as before", desk.length(), 6);
        TightDesk still = solved(row(1), row(0, -1, 0));
        due.is("it can't move: delay(0, 0)", still.delay(0, 0), 1);
        due.is("it can't move: delay(0, 1)", still.delay(0, 1), -3);
        TightDesk free = solved(row(1, 1), row(0, 1, 5), row(1, 0, -5));
        due.is("both move: delay(0, 1000)", free.delay(0, 1000), 1006);
    }

    @Sentence("NONE: no such TASK, by")
    void promise11None() {
        TightDesk desk = desk(1, 1);
        noSuchDelay("no answers", desk);
        desk.solve();
        noSuchDelay("starts", desk);
        desk.constrain(0, 0, 1);
        noSuchDelay("stale", desk);
        desk.solve();
        noSuchDelay("a circle", desk);
        due.is("without tasks", solved(row()).delay(0, 0), NONE);
    }

    private void noSuchDelay(String name, TightDesk desk) {
        for (int wrong : row(2, 29, 30, 31, MOST, -1, -2, LEAST)) {
            due.is(name + ": delay(" + wrong + ", 0)", desk.delay(wrong, 0), NONE);
        }
        for (int wrong : row(-1, -2, LEAST, 1001, 1002, MOST)) {
            due.is(name + ": delay(0, " + wrong + ")", desk.delay(0, wrong), NONE);
        }
    }

    @Sentence("NONE: no such TASK, by; then STALE.")
    void promise11Stale() {
        TightDesk desk = desk(1);
        due.is("no answers: delay(0, 0)", desk.delay(0, 0), STALE);
        due.is("no answers: delay(0, 1000)", desk.delay(0, 1000), STALE);
        desk.solve();
        desk.task(1);
        due.is("stale: delay(0, 0)", desk.delay(0, 0), STALE);
        due.is("stale: delay(1, 0), a new task", desk.delay(1, 0), STALE);
        due.is("a circle: delay(0, 0)", withCircle().delay(0, 0), STALE);
    }

    @Sentence("How many TASKS are RUNNING at a time")
    void promise12AnyTime() {
        TightDesk desk = solved(row(1000, 1000, 0), row(-1, 1, 1000));
        due.is("busy(0)", desk.busy(0), 1);
        due.is("busy(999)", desk.busy(999), 1);
        due.is("busy(1000)", desk.busy(1000), 1);
        due.is("busy(1999)", desk.busy(1999), 1);
        for (int time : row(-1, -1000, LEAST, LEAST + 1, 2000, 31000, MOST, MOST - 1)) {
            due.is("busy(" + time + ")", desk.busy(time), 0);
        }
        due.is("all at once", solvedFull().busy(0), 30);
        due.is("no tasks", solved(row()).busy(0), 0);
    }

    private static TightDesk solvedFull() {
        TightDesk desk = fullOfTasks(1);
        desk.solve();
        return desk;
    }

    @Sentence("STALE as start().")
    void promise12Stale() {
        TightDesk desk = desk(1);
        for (int time : row(0, -1, LEAST, MOST)) {
            due.is("no answers: busy(" + time + ")", desk.busy(time), STALE);
            due.is("a circle: busy(" + time + ")", withCircle().busy(time), STALE);
        }
        desk.solve();
        due.is("busy(0)", desk.busy(0), 1);
        desk.task(1);
        due.is("stale: busy(0)", desk.busy(0), STALE);
    }

    @Sentence("The first time at which most TASKS are RUNNING .. how many (1)")
    void promise13FirstTime() {
        peak("at 0", solved(row(1, 1)), 0, 2);
        peak("all of them", solvedFull(), 0, 30);
        peak("the first of two times", solved(row(1, 1, 1, 1), row(-1, 0, 8), row(-1, 1, 8), row(-1, 2, 5),
                row(-1, 3, 5)), 5, 2);
        peak("one ends as another starts", solved(row(3, 3), row(-1, 1, 3)), 0, 1);
        peak("one ends after another starts", solved(row(3, 3), row(-1, 1, 2)), 2, 2);
        peak("one of duration 0 is none", solved(row(0, 1), row(-1, 1, 4)), 4, 1);
        peak("the last task's start", solved(row(9, 9, 9), row(-1, 1, 1), row(-1, 2, 2)), 2, 3);
    }

    private void peak(String name, TightDesk desk, int time, int many) {
        due.is(name + ": peak(0)", desk.peak(0), time);
        due.is(name + ": peak(1)", desk.peak(1), many);
    }

    @Sentence("0 if none ever is")
    void promise13NoneEverIs() {
        peak("no tasks", solved(row()), 0, 0);
        peak("of duration 0", solved(row(0, 0)), 0, 0);
        peak("of duration 0, later", solved(row(0, 0), row(-1, 0, 7), row(-1, 1, 3)), 0, 0);
    }

    @Sentence("NONE for another what")
    void promise13NoSuchWhat() {
        TightDesk desk = desk(1);
        for (int wrong : row(2, 3, MOST, -1, -2, LEAST)) {
            due.is("no answers: peak(" + wrong + ")", desk.peak(wrong), NONE);
            due.is("starts: peak(" + wrong + ")", solved(row(1)).peak(wrong), NONE);
            due.is("a circle: peak(" + wrong + ")", withCircle().peak(wrong), NONE);
        }
    }

    @Sentence("NONE for another what; then STALE.")
    void promise13Stale() {
        TightDesk desk = desk(1);
        peak("no answers", desk, STALE, STALE);
        desk.solve();
        peak("starts", desk, 0, 1);
        desk.task(0);
        peak("stale", desk, STALE, STALE);
        peak("a circle", withCircle(), STALE, STALE);
    }
}
