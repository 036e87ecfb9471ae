import java.lang.reflect.InvocationTargetException;

/** The boundary cases of ANSWERS: what makes them STALE, what does not, and which ones are kept. */
public final class StaleEdgeTest extends Edges {
    public static void main(String[] args) throws IllegalAccessException, InvocationTargetException {
        new StaleEdgeTest().holdEachSentence();
    }

    /** Two tasks, a constraint and a dropped one, two workers, a skill; with a plan and a match at 0. */
    private static TightDesk answered() {
        TightDesk desk = told(row(3, 4), row(0, 1, 3), row(1, 0, 7));
        desk.drop(1);
        desk.worker();
        desk.worker();
        desk.skill(0, 1);
        desk.solve();
        desk.assign(0);
        return desk;
    }

    /** With a circle instead of a plan. */
    private static TightDesk circled() {
        TightDesk desk = told(row(3, 4), row(0, 1, 3), row(1, 0, -2));
        desk.solve();
        return desk;
    }

    private void planIsThere(String name, TightDesk desk) {
        due.is(name + ": start(1, 0)", desk.start(1, 0), 3);
        due.is(name + ": start(1, 1)", desk.start(1, 1), 3);
        due.is(name + ": start(1, 2)", desk.start(1, 2), 0);
        due.is(name + ": start(1, 3)", desk.start(1, 3), 0);
        due.is(name + ": length()", desk.length(), 7);
        due.is(name + ": row(0, 1)", desk.row(0, 1), 1);
        due.is(name + ": delay(0, 1)", desk.delay(0, 1), 8);
        due.is(name + ": busy(0)", desk.busy(0), 1);
        due.is(name + ": peak(1)", desk.peak(1), 1);
        due.is(name + ": count(6)", desk.count(6), 0);
        due.is(name + ": count(7)", desk.count(7), 2);
    }

    private void planIsStale(String name, TightDesk desk) {
        for (int what = 0; what <= 3; what++) {
            due.is(name + ": start(1, " + what + ")", desk.start(1, what), STALE);
        }
        due.is(name + ": length()", desk.length(), STALE);
        due.is(name + ": row(0, 0)", desk.row(0, 0), NONE);
        due.is(name + ": delay(0, 1)", desk.delay(0, 1), STALE);
        due.is(name + ": busy(0)", desk.busy(0), STALE);
        due.is(name + ": peak(0)", desk.peak(0), STALE);
        due.is(name + ": peak(1)", desk.peak(1), STALE);
        due.is(name + ": assign(0)", desk.assign(0), STALE);
        due.is(name + ": count(6)", desk.count(6), 1);
        due.is(name + ": count(7)", desk.count(7), 0);
    }

    private void matchIsThere(String name, TightDesk desk) {
        due.is(name + ": workerOf(0)", desk.workerOf(0), 1);
        due.is(name + ": cover(0, 0)", desk.cover(0, 0), 1);
        due.is(name + ": cover(1, 1)", desk.cover(1, 1), 0);
        due.is(name + ": count(9)", desk.count(9), 1);
    }

    private void matchIsStale(String name, TightDesk desk) {
        due.is(name + ": workerOf(0)", desk.workerOf(0), STALE);
        due.is(name + ": cover(0, 0)", desk.cover(0, 0), STALE);
        due.is(name + ": cover(1, 1)", desk.cover(1, 1), STALE);
        due.is(name + ": count(9)", desk.count(9), 0);
    }

    @Sentence("they are STALE from the next task() .. on that does something (so are those of assign())")
    void afterTask() {
        TightDesk desk = answered();
        due.is("task(1001)", desk.task(1001), NONE);
        planIsThere("refused", desk);
        matchIsThere("refused", desk);
        due.is("task(0)", desk.task(0), 2);
        planIsStale("done", desk);
        matchIsStale("done", desk);
    }

    @Sentence("they are STALE from the next .. constrain() .. on that does something (so are those of assign())")
    void afterConstrain() {
        TightDesk desk = answered();
        due.is("constrain(0, 1, -1001)", desk.constrain(0, 1, -1001), NONE);
        planIsThere("refused", desk);
        matchIsThere("refused", desk);
        due.is("constrain(0, 0, -1000), which changes no start", desk.constrain(0, 0, -1000), 2);
        planIsStale("done", desk);
        matchIsStale("done", desk);
    }

    @Sentence("they are STALE from the next .. drop() on that does something (so are those of assign())")
    void afterDrop() {
        TightDesk desk = answered();
        due.is("drop(1), dropped already", desk.drop(1), false);
        due.is("drop(2), none such", desk.drop(2), false);
        planIsThere("refused", desk);
        matchIsThere("refused", desk);
        due.is("drop(0)", desk.drop(0), true);
        planIsStale("done", desk);
        matchIsStale("done", desk);
    }

    @Sentence("ANSWERS: of solve() .. the CIRCLE; they are STALE from the next task(), constrain(), drop() on")
    void circleAfterEach() {
        TightDesk desk = circled();
        due.is("task(-1)", desk.task(-1), NONE);
        due.is("constrain(-1, -1, 0)", desk.constrain(-1, -1, 0), NONE);
        due.is("drop(2)", desk.drop(2), false);
        due.row("refused", desk, 1, 0, 1);
        due.is("refused: count(6)", desk.count(6), 0);
        desk.task(0);
        circleIsStale("task(0)", desk);
        desk = circled();
        desk.constrain(0, 0, 0);
        circleIsStale("constrain(0, 0, 0)", desk);
        desk = circled();
        desk.drop(0);
        circleIsStale("drop(0)", desk);
    }

    private void circleIsStale(String name, TightDesk desk) {
        due.is(name + ": row(1, 0)", desk.row(1, 0), NONE);
        due.is(name + ": count(8)", desk.count(8), 0);
        due.is(name + ": count(6)", desk.count(6), 1);
        due.is(name + ": count(5)", desk.count(5), 1);
    }

    @Sentence("of assign() MATCH and COVER; they are STALE from the next worker() .. on that does something, too")
    void afterWorker() {
        TightDesk desk = answered();
        due.is("worker()", desk.worker(), 2);
        matchIsStale("done", desk);
        planIsThere("done", desk);
        for (int w = 3; w < 16; w++) {
            due.is("worker()", desk.worker(), w);
        }
        desk.assign(0);
        due.is("worker(), the 17th", desk.worker(), NONE);
        matchIsThere("refused", desk);
    }

    @Sentence("of assign() MATCH and COVER; they are STALE from the next .. skill() on that does something, too")
    void afterSkill() {
        TightDesk desk = answered();
        due.is("skill(0, 1), it has it", desk.skill(0, 1), false);
        due.is("skill(2, 1), no such task", desk.skill(2, 1), false);
        due.is("skill(0, 2), no such worker", desk.skill(0, 2), false);
        matchIsThere("refused", desk);
        due.is("skill(1, 0), of one that does not run", desk.skill(1, 0), true);
        matchIsStale("done", desk);
        planIsThere("done", desk);
    }

    @Sentence("they are STALE .. from the next solve() on")
    void afterSolve() {
        TightDesk desk = answered();
        desk.solve();
        matchIsStale("the same starts", desk);
        planIsThere("the same starts", desk);
        desk.assign(0);
        matchIsThere("assign(0)", desk);
        desk.constrain(0, 0, 1);
        desk.solve();
        desk.drop(2);
        matchIsStale("a circle in between", desk);
        desk.solve();
        matchIsStale("starts again", desk);
    }

    @Sentence("STALE from the next .. on")
    void notByAsking() {
        TightDesk desk = answered();
        for (int i = 0; i < 2; i++) {
            planIsThere("asked " + i, desk);
            matchIsThere("asked " + i, desk);
            for (int what = -1; what <= 3; what++) {
                desk.check(what);
                desk.peak(what);
            }
            desk.delay(0, 1000);
            desk.delay(1, -1);
            desk.start(9, 9);
            desk.row(9, 9);
            desk.cover(9, 9);
            desk.workerOf(9);
            desk.count(99);
        }
        planIsThere("at last", desk);
        matchIsThere("at last", desk);
    }

    @Sentence("The kept ones are those of the latest solve() .. also when STALE")
    void keptPlan() {
        TightDesk desk = answered();
        desk.task(0);
        due.is("check(0), a task more", desk.check(0), 0);
        desk.solve();
        due.is("check(0), the latest solve()", desk.check(0), 1);
        desk.constrain(0, 1, 2);
        due.is("check(0), stale", desk.check(0), 1);
        desk.constrain(0, 1, 4);
        due.is("check(0), stale and wrong", desk.check(0), 0);
        desk.drop(3);
        due.is("check(0), stale and right again", desk.check(0), 1);
        due.is("a check makes nothing fresh", desk.length(), STALE);
        desk.constrain(0, 0, 1);
        desk.solve();
        due.is("check(0), the latest solve() gave a circle", desk.check(0), NONE);
        due.is("check(1)", desk.check(1), 1);
        desk.drop(4);
        due.is("check(1), stale", desk.check(1), 0);
        desk.solve();
        due.is("check(0), the latest solve() gave starts", desk.check(0), 1);
        due.is("check(1), no circle any more", desk.check(1), NONE);
    }

    @Sentence("The kept ones are those of the latest .. assign() that was not refused, also when STALE")
    void keptMatch() {
        TightDesk desk = answered();
        desk.task(3);
        due.is("assign(9), refused", desk.assign(9), STALE);
        due.is("check(2), a task more runs at 0", desk.check(2), 0);
        desk.solve();
        due.is("check(2), through solve()", desk.check(2), 0);
        desk.assign(9);
        due.is("check(2), the latest assign()", desk.check(2), 1);
        desk.constrain(-1, 2, 6);
        due.is("assign(0), refused", desk.assign(0), STALE);
        due.is("check(2), stale, it ends at 9", desk.check(2), 1);
        desk.constrain(-1, 2, 7);
        due.is("check(2), stale, it runs at 9", desk.check(2), 0);
    }

    @Sentence("`NONE = -1`: There is none. `STALE = -2`: Without ANSWERS that are not STALE.")
    void constants() {
        due.is("NONE", TightDesk.NONE, -1);
        due.is("STALE", TightDesk.STALE, -2);
        due.is("task(-1)", new TightDesk().task(-1), -1);
        due.is("length()", new TightDesk().length(), -2);
    }
}
