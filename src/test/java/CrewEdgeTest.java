import java.lang.reflect.InvocationTargetException;

/** The boundary cases of promises 14 to 18: who does what, the checker, the counts. */
public final class CrewEdgeTest extends Edges {
    public static void main(String[] args) throws IllegalAccessException, InvocationTargetException {
        new CrewEdgeTest().holdEachSentence();
    }

    @Sentence("A MATCH at a time is found, and its COVER: how many pairs.")
    void promise14NoPairs() {
        due.is("nothing told", solved(row()).assign(0), 0);
        due.is("no workers", crew(0, row()).assign(0), 0);
        due.is("no skills", crew(1, row()).assign(0), 0);
        due.is("no tasks", crew(1).assign(0), 0);
        TightDesk desk = crew(1, row(0));
        for (int time : row(5, 6, MOST, -1, -2, LEAST)) {
            due.is("none runs: assign(" + time + ")", desk.assign(time), 0);
            due.is("it is a match: workerOf(0)", desk.workerOf(0), NONE);
            due.is("it is a match: check(2)", desk.check(2), 1);
            due.is("its cover is empty: count(9)", desk.count(9), 0);
            due.is("its cover is empty: cover(1, 0)", desk.cover(1, 0), 0);
        }
        due.is("the first time: assign(0)", desk.assign(0), 1);
        due.is("the last time: assign(4)", desk.assign(4), 1);
    }

    @Sentence("A MATCH at a time is found, and its COVER: how many pairs.")
    void promise14MostPairs() {
        int[][] skills = new int[30][];
        for (int t = 0; t < 30; t++) {
            skills[t] = t < 14 ? row() : row(29 - t);
        }
        TightDesk desk = crew(16, skills);
        due.is("assign(0)", desk.assign(0), 16);
        for (int t = 0; t < 30; t++) {
            due.is("workerOf(" + t + ")", desk.workerOf(t), t < 14 ? NONE : 29 - t);
            due.is("cover(0, " + t + ")", desk.cover(0, t), t < 14 ? 0 : 1);
        }
        due.is("count(9)", desk.count(9), 16);
    }

    @Sentence("A MATCH at a time is found, and its COVER")
    void promise14InPlaceOfTheOneBefore() {
        TightDesk desk = crew(2, row(0), row(0, 1));
        desk.assign(0);
        due.workers("at 0", desk, 0, 1);
        desk.assign(5);
        due.workers("at 5", desk, NONE, NONE);
        due.cover("at 5: tasks", desk, 0, 0, 0);
        desk.assign(1);
        due.workers("at 1", desk, 0, 1);
        due.cover("at 1: tasks", desk, 0, 1, 1);
    }

    @Sentence("STALE as start().")
    void promise14Stale() {
        TightDesk desk = desk(1);
        for (int time : row(0, -1, LEAST, MOST)) {
            due.is("no answers: assign(" + time + ")", desk.assign(time), STALE);
            due.is("a circle: assign(" + time + ")", withCircle().assign(time), STALE);
        }
        desk.solve();
        desk.task(1);
        due.is("stale: assign(0)", desk.assign(0), STALE);
        due.is("what is refused is no match: workerOf(0)", desk.workerOf(0), STALE);
        due.is("what is refused is no match: check(2)", desk.check(2), NONE);
        desk.solve();
        desk.worker();
        desk.skill(0, 0);
        due.is("a worker and a skill leave the plan: assign(0)", desk.assign(0), 1);
    }

    @Sentence("NONE: no such TASK, or it has none")
    void promise15None() {
        TightDesk desk = assigned(1, row(), row(0), row(0));
        due.workers("it has none", desk, NONE, 0, NONE);
        for (int wrong : row(3, 29, 30, 31, MOST, -1, -2, LEAST)) {
            due.is("workerOf(" + wrong + ")", desk.workerOf(wrong), NONE);
        }
    }

    @Sentence("ahead of that STALE: no MATCH")
    void promise15Stale() {
        TightDesk desk = crew(1, row(0));
        for (int task : row(0, 1, 30, MOST, -1, LEAST)) {
            due.is("no match: workerOf(" + task + ")", desk.workerOf(task), STALE);
        }
        desk.assign(0);
        desk.worker();
        for (int task : row(0, 1, 30, MOST, -1, LEAST)) {
            due.is("stale: workerOf(" + task + ")", desk.workerOf(task), STALE);
        }
        due.is("no tasks: workerOf(0)", new TightDesk().workerOf(0), STALE);
    }

    @Sentence("Whether a TASK (side 0), a WORKER (1) is in THE COVER: 1, 0.")
    void promise16InAndOut() {
        TightDesk desk = assigned(3, row(0), row(1), row(1), row());
        due.cover("tasks", desk, 0, 1, 0, 0, 0);
        due.cover("workers", desk, 1, 0, 1, 0);
        TightDesk full = fullOfTasks(1);
        for (int w = 0; w < 16; w++) {
            full.worker();
        }
        full.skill(29, 14);
        full.skill(0, 15);
        full.skill(1, 15);
        full.solve();
        full.assign(0);
        due.is("the last task", full.cover(0, 29), 1);
        due.is("the last worker", full.cover(1, 15), 1);
        due.is("the one ahead of it", full.cover(1, 14), 0);
        due.is("the first task", full.cover(0, 0), 0);
    }

    @Sentence("NONE: none such")
    void promise16None() {
        TightDesk desk = assigned(2, row(0), row(0), row());
        for (int wrong : row(3, 29, 30, 31, 32, MOST, -1, -2, -32, LEAST)) {
            due.is("cover(0, " + wrong + ")", desk.cover(0, wrong), NONE);
        }
        for (int wrong : row(2, 15, 16, 31, 32, MOST, -1, -2, -32, LEAST)) {
            due.is("cover(1, " + wrong + ")", desk.cover(1, wrong), NONE);
        }
        for (int wrong : row(2, 3, MOST, -1, -2, LEAST)) {
            due.is("cover(" + wrong + ", 0)", desk.cover(wrong, 0), NONE);
        }
        due.is("a task that is no worker", desk.cover(1, 2), NONE);
        due.is("a worker that is no task", assigned(2, row(0)).cover(0, 1), NONE);
    }

    @Sentence("ahead of that STALE: no MATCH")
    void promise16Stale() {
        TightDesk desk = crew(1, row(0));
        coverIsStale("no match", desk);
        desk.assign(0);
        desk.skill(0, 9);
        due.is("cover(0, 0)", desk.cover(0, 0), 1);
        desk.solve();
        coverIsStale("stale", desk);
    }

    private void coverIsStale(String name, TightDesk desk) {
        for (int id : row(0, 1, 30, MOST, -1, LEAST)) {
            for (int side : row(0, 1, 2, MOST, -1, LEAST)) {
                due.is(name + ": cover(" + side + ", " + id + ")", desk.cover(side, id), STALE);
            }
        }
    }

    @Sentence("what 0: EARLIEST, LATEST, LENGTH are those of all TASKS that there are now")
    void promise17Times() {
        due.is("nothing told", solved(row()).check(0), 1);
        due.is("just solved", solved(row(3, 4), row(0, 1, 3)).check(0), 1);
        TightDesk earliest = solved(row(1, 9), row(-1, 0, 2), row(0, -1, -8));
        earliest.constrain(-1, 0, 3);
        due.is("another earliest alone", earliest.check(0), 0);
        earliest.drop(2);
        due.is("the same earliest again", earliest.check(0), 1);
        TightDesk latest = solved(row(1, 9));
        latest.constrain(0, -1, -8);
        due.is("the same latest", latest.check(0), 1);
        latest.constrain(0, -1, -7);
        due.is("another latest alone", latest.check(0), 0);
        TightDesk last = fullOfTasks(5);
        last.solve();
        last.constrain(29, -1, 0);
        due.is("the last task, the same latest", last.check(0), 1);
        last.constrain(-1, 29, 1);
        due.is("no starts now", last.check(0), 0);
    }

    @Sentence("of all TASKS that there are now")
    void promise17OneTaskMore() {
        TightDesk first = solved(row());
        first.task(0);
        due.is("the first, of duration 0", first.check(0), 0);
        TightDesk second = solved(row(5));
        second.task(0);
        due.is("one that leaves the others as they are", second.check(0), 0);
        second.solve();
        due.is("solved again", second.check(0), 1);
        TightDesk longer = solved(row(5));
        longer.task(6);
        due.is("one that makes it longer", longer.check(0), 0);
        due.is("a refused one", longer.task(1001), NONE);
    }

    @Sentence("1: the CIRCLE is a row of BOUNDS and CONSTRAINTS that are not dropped")
    void promise17Circle() {
        TightDesk desk = solved(row(1, 1), row(0, 1, 5), row(1, 0, -5), row(1, 0, -4), row(1, -1, -4));
        due.row("0 2", desk, 1, 0, 2);
        due.is("just solved", desk.check(1), 1);
        desk.drop(1);
        due.is("one beside it dropped", desk.check(1), 1);
        desk.drop(0);
        due.is("its first dropped", desk.check(1), 0);
        TightDesk last = solved(row(1, 1), row(0, 1, 5), row(1, 0, -4));
        last.drop(1);
        due.is("its last dropped", last.check(1), 0);
        TightDesk bound = solved(row(1, 1), row(0, 1, 5), row(1, -1, -4));
        due.row("with a bound", bound, 1, 0, 1, 200);
        due.is("with a bound", bound.check(1), 1);
        bound.drop(1);
        due.is("the bound and one more are left", bound.check(1), 0);
        TightDesk shorter = solved(row(1, 1), row(0, 1, 5), row(1, 0, -4));
        shorter.constrain(0, 0, 1);
        shorter.solve();
        due.row("one alone", shorter, 1, 2);
        shorter.drop(1);
        due.is("one of the circle before dropped", shorter.check(1), 1);
        TightDesk more = withCircle();
        more.constrain(0, 0, 2);
        due.is("another circle beside it", more.check(1), 1);
        more.drop(0);
        due.is("the other one alone", more.check(1), 0);
    }

    @Sentence("1: the CIRCLE is a row of BOUNDS and CONSTRAINTS that are not dropped")
    void promise17LastConstraint() {
        TightDesk desk = desk(1);
        for (int c = 0; c < 119; c++) {
            desk.constrain(0, 0, 0);
        }
        desk.constrain(0, 0, 1);
        desk.solve();
        due.row("119 alone", desk, 1, 119);
        desk.drop(118);
        due.is("118 dropped", desk.check(1), 1);
        desk.drop(119);
        due.is("119 dropped", desk.check(1), 0);
    }

    @Sentence("2: each TASK of the MATCH is RUNNING at its time now")
    void promise17MatchRuns() {
        TightDesk desk = crew(1, row(0));
        desk.assign(4);
        desk.constrain(-1, 0, 4);
        due.is("it starts at 4", desk.check(2), 1);
        desk.constrain(-1, 0, 5);
        due.is("it starts at 5", desk.check(2), 0);
        desk.drop(1);
        due.is("it starts at 4 again", desk.check(2), 1);
        TightDesk ends = crew(1, row(0));
        ends.constrain(-1, 0, 2);
        ends.solve();
        ends.assign(6);
        due.is("it ends at 7", ends.check(2), 1);
        ends.drop(0);
        due.is("it ends at 5", ends.check(2), 0);
    }

    @Sentence("by the EARLIEST as they are now, or would be by solve()")
    void promise17NowOrWouldBe() {
        TightDesk desk = assigned(1, row(0));
        desk.constrain(-1, 0, 1);
        due.is("as they would be", desk.check(2), 0);
        desk.solve();
        due.is("as they are", desk.check(2), 0);
        desk.drop(0);
        due.is("as they would be again", desk.check(2), 1);
        due.is("no solve() was made", desk.length(), STALE);
        desk.solve();
        due.is("as they are again", desk.check(2), 1);
        due.is("the match stays stale", desk.workerOf(0), STALE);
    }

    @Sentence("the TASKS RUNNING then are those that were")
    void promise17SameTasks() {
        TightDesk more = assigned(1, row(0));
        more.task(0);
        due.is("one of duration 0 more", more.check(2), 1);
        more.task(1);
        due.is("one more that runs", more.check(2), 0);
        TightDesk less = assigned(1, row(0), row());
        less.constrain(-1, 1, 1);
        due.is("one without a worker less", less.check(2), 0);
        TightDesk none = crew(1, row(0));
        none.assign(5);
        due.is("none ran, none runs", none.check(2), 1);
        none.constrain(-1, 0, 1);
        due.is("none ran, one runs", none.check(2), 0);
        TightDesk full = crew(1, new int[29][0]);
        full.assign(0);
        full.task(1);
        due.is("the 30th task more", full.check(2), 0);
        TightDesk other = assigned(0, row(), row());
        other.constrain(-1, 1, 1);
        other.task(1);
        due.is("as many, but another one", other.check(2), 0);
    }

    @Sentence("the WORKERS have the SKILLS, and no SKILL of these TASKS is beside THE COVER")
    void promise17Skills() {
        TightDesk beside = assigned(2, row(0), row(0));
        due.is("just assigned", beside.check(2), 1);
        beside.skill(1, 1);
        due.is("of a task and a worker that are not in it", beside.check(2), 0);
        TightDesk worker = assigned(2, row(0), row(0), row());
        worker.skill(2, 0);
        due.is("of a worker that is in it", worker.check(2), 1);
        TightDesk task = assigned(2, row(0));
        task.skill(0, 1);
        due.is("of a task that is in it", task.check(2), 1);
        TightDesk later = crew(1, row(), row());
        later.constrain(-1, 1, 9);
        later.solve();
        later.assign(0);
        later.skill(1, 0);
        due.is("of a task that does not run", later.check(2), 1);
        later.skill(0, 0);
        due.is("of the one that runs", later.check(2), 0);
        TightDesk last = crew(0, row());
        last.assign(0);
        for (int w = 0; w < 16; w++) {
            last.worker();
        }
        due.is("workers without it", last.check(2), 1);
        last.skill(0, 15);
        due.is("of the last worker, who is new", last.check(2), 0);
        TightDesk full = crew(1, new int[30][0]);
        full.assign(0);
        due.is("30 tasks", full.check(2), 1);
        full.skill(29, 0);
        due.is("of the last task", full.check(2), 0);
    }

    @Sentence("NONE: no such ANSWERS are kept")
    void promise17None() {
        for (int what = 0; what <= 2; what++) {
            due.is("new: check(" + what + ")", new TightDesk().check(what), NONE);
        }
        TightDesk starts = crew(1, row(0));
        due.is("starts: check(0)", starts.check(0), 1);
        due.is("starts: check(1)", starts.check(1), NONE);
        due.is("starts: check(2)", starts.check(2), NONE);
        TightDesk circle = withCircle();
        due.is("a circle: check(0)", circle.check(0), NONE);
        due.is("a circle: check(1)", circle.check(1), 1);
        due.is("a circle: check(2)", circle.check(2), NONE);
        circle.drop(0);
        due.is("not solved again: check(0)", circle.check(0), NONE);
        due.is("not solved again: check(1)", circle.check(1), 0);
    }

    @Sentence("NONE: .. or another what")
    void promise17NoSuchWhat() {
        TightDesk desk = assigned(1, row(0));
        for (int wrong : row(3, 4, MOST, -1, -2, LEAST)) {
            due.is("new: check(" + wrong + ")", new TightDesk().check(wrong), NONE);
            due.is("a match: check(" + wrong + ")", desk.check(wrong), NONE);
            due.is("a circle: check(" + wrong + ")", withCircle().check(wrong), NONE);
        }
    }

    @Sentence("what 2: 0 if there are no STARTS now")
    void promise17NoStartsNow() {
        TightDesk desk = crew(1, row(0));
        desk.assign(0);
        desk.constrain(0, 0, 1);
        due.is("not solved", desk.check(2), 0);
        desk.solve();
        due.is("solved", desk.check(2), 0);
        due.is("refused: assign(0)", desk.assign(0), STALE);
        due.is("after that", desk.check(2), 0);
        desk.drop(0);
        due.is("starts again", desk.check(2), 1);
        TightDesk none = crew(1, row(0));
        none.assign(99);
        none.constrain(0, 0, 1);
        due.is("none ran", none.check(2), 0);
    }

    @Sentence("0 TASKS, 1 CONSTRAINTS (dropped ones, too), 2 dropped ones, 3 WORKERS, 4 SKILLS")
    void promise18Told() {
        TightDesk desk = new TightDesk();
        counts("nothing", desk, 0, 0, 0, 0, 0);
        desk.task(1);
        counts("a task", desk, 1, 0, 0, 0, 0);
        desk.constrain(0, 0, 0);
        counts("a constraint", desk, 1, 1, 0, 0, 0);
        desk.drop(0);
        counts("a dropped one", desk, 1, 1, 1, 0, 0);
        desk.worker();
        counts("a worker", desk, 1, 1, 1, 1, 0);
        desk.skill(0, 0);
        counts("a skill", desk, 1, 1, 1, 1, 1);
        desk.task(-1);
        desk.constrain(0, 1, 0);
        desk.drop(0);
        desk.skill(0, 0);
        counts("what is refused", desk, 1, 1, 1, 1, 1);
    }

    private void counts(String name, TightDesk desk, int... counts) {
        for (int what = 0; what < counts.length; what++) {
            due.is(name + ": count(" + what + ")", desk.count(what), counts[what]);
        }
    }

    @Sentence("5 what the latest solve() gave (NONE ahead of any)")
    void promise18LatestSolve() {
        TightDesk desk = desk(1);
        due.is("ahead of any", desk.count(5), NONE);
        desk.check(0);
        due.is("a check is none", desk.count(5), NONE);
        desk.solve();
        due.is("starts", desk.count(5), 0);
        desk.constrain(0, 0, 1);
        due.is("stale", desk.count(5), 0);
        desk.solve();
        due.is("a circle", desk.count(5), 1);
        desk.drop(0);
        due.is("a stale circle", desk.count(5), 1);
        desk.solve();
        due.is("starts again", desk.count(5), 0);
    }

    @Sentence("6 1 if its ANSWERS are STALE, or there are none, else 0")
    void promise18Stale() {
        TightDesk desk = desk(1);
        due.is("none", desk.count(6), 1);
        desk.solve();
        due.is("starts", desk.count(6), 0);
        desk.worker();
        desk.skill(0, 0);
        due.is("a worker and a skill", desk.count(6), 0);
        desk.constrain(0, 0, 1);
        due.is("stale", desk.count(6), 1);
        desk.solve();
        due.is("a circle", desk.count(6), 0);
        desk.drop(0);
        due.is("a stale circle", desk.count(6), 1);
    }

    @Sentence("7 TASKS of THE CHAIN")
    void promise18Chain() {
        TightDesk desk = new TightDesk();
        desk.solve();
        due.is("no tasks", desk.count(7), 0);
        desk.task(1);
        due.is("stale", desk.count(7), 0);
        desk.solve();
        due.is("one", desk.count(7), 1);
        desk.task(1);
        desk.constrain(0, 1, 1);
        desk.solve();
        due.is("two", desk.count(7), 2);
        desk.constrain(-1, 0, 1);
        desk.solve();
        due.is("no chain", desk.count(7), 0);
        due.is("a circle", withCircle().count(7), 0);
    }

    @Sentence("8 numbers of the CIRCLE (0 if STALE)")
    void promise18Circle() {
        TightDesk desk = desk(1, 1);
        due.is("none", desk.count(8), 0);
        desk.solve();
        due.is("starts", desk.count(8), 0);
        desk.constrain(0, 1, 1);
        desk.constrain(1, 0, 0);
        due.is("not solved", desk.count(8), 0);
        desk.solve();
        due.is("two", desk.count(8), 2);
        desk.constrain(0, 0, 1);
        due.is("stale", desk.count(8), 0);
        desk.solve();
        due.is("one", desk.count(8), 1);
    }

    @Sentence("9 how many are in THE COVER (0 if STALE)")
    void promise18Cover() {
        TightDesk desk = crew(2, row(0), row(0), row(1), row());
        due.is("none", desk.count(9), 0);
        desk.assign(0);
        due.is("a worker and a task", desk.count(9), 2);
        desk.worker();
        due.is("stale", desk.count(9), 0);
        desk.assign(0);
        due.is("found again", desk.count(9), 2);
        desk.assign(5);
        due.is("none runs", desk.count(9), 0);
        desk.assign(4);
        desk.solve();
        due.is("stale by solve()", desk.count(9), 0);
    }

    @Sentence("NONE for others.")
    void promise18NoSuchWhat() {
        for (int wrong : row(10, 11, MOST, -1, -2, LEAST)) {
            due.is("new: count(" + wrong + ")", new TightDesk().count(wrong), NONE);
            due.is("a match: count(" + wrong + ")", assigned(1, row(0)).count(wrong), NONE);
            due.is("a circle: count(" + wrong + ")", withCircle().count(wrong), NONE);
        }
    }
}
