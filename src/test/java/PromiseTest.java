/** Each promise of the document by its number: ordinary inputs, the edges, wrong inputs. */
public final class PromiseTest extends Desks {
    private final Due due = new Due("PromiseTest");

    public static void main(String[] args) {
        PromiseTest test = new PromiseTest();
        test.promise1NewObject();
        test.promise2Task();
        test.promise3Constrain();
        test.promise4Drop();
        test.promise5Worker();
        test.promise6Skill();
        test.promise7Solve();
        test.promise8StartOfEach();
        test.promise8FreeAndLatest();
        test.promise8NoneAndStale();
        test.promise8AnyOrder();
        test.promise9Length();
        test.promise10Chain();
        test.promise10ChainTies();
        test.promise10NoChain();
        test.promise10Circle();
        test.promise10CircleTies();
        test.promise10LongestCircle();
        test.promise10Refusals();
        test.promise11Delay();
        test.promise12Busy();
        test.promise13Peak();
        test.promise14Assign();
        test.promise14FirstMatch();
        test.promise14WholeCrew();
        test.promise14AllShift();
        test.promise15WorkerOf();
        test.promise16Cover();
        test.promise17Times();
        test.promise17Circle();
        test.promise17Match();
        test.promise17KeptMatch();
        test.promise18Count();
        test.promise18Stale();
        test.fullDeskWithStarts();
        test.fullDeskWithCircle();
        test.due.end();
    }

    private void promise1NewObject() {
        TightDesk desk = new TightDesk();
        int[] counts = {0, 0, 0, 0, 0, NONE, 1, 0, 0, 0};
        for (int what = 0; what < counts.length; what++) {
            due.is("new: count(" + what + ")", desk.count(what), counts[what]);
        }
        for (int what = -1; what <= 3; what++) {
            due.is("new: check(" + what + ")", desk.check(what), NONE);
        }
        due.is("new: length()", desk.length(), STALE);
        due.is("new: busy(0)", desk.busy(0), STALE);
        due.is("new: peak(0)", desk.peak(0), STALE);
        due.is("new: assign(0)", desk.assign(0), STALE);
        due.is("new: workerOf(0)", desk.workerOf(0), STALE);
        due.is("new: cover(0, 0)", desk.cover(0, 0), STALE);
        due.is("new: row(0, 0)", desk.row(0, 0), NONE);
        due.is("new: row(1, 0)", desk.row(1, 0), NONE);
        due.is("new: start(0, 0)", desk.start(0, 0), NONE);
        due.is("new: delay(0, 0)", desk.delay(0, 0), NONE);
        TightDesk other = desk(7);
        due.is("one desk tells another nothing", desk.count(0), 0);
        due.is("its own task", other.count(0), 1);
    }

    private void promise2Task() {
        TightDesk desk = new TightDesk();
        for (int wrong : row(-1, 1001, LEAST, MOST)) {
            due.is("task(" + wrong + ")", desk.task(wrong), NONE);
        }
        due.is("task(0)", desk.task(0), 0);
        due.is("task(1000)", desk.task(1000), 1);
        for (int t = 2; t < 30; t++) {
            due.is("task(1)", desk.task(1), t);
        }
        due.is("task(1), the 31st", desk.task(1), NONE);
        due.is("count(0)", desk.count(0), 30);
        desk.solve();
        due.is("the durations are the told ones", desk.length(), 1000);
        due.is("task(1), refused", desk.task(1), NONE);
        due.is("a refused task spoils nothing", desk.count(6), 0);
        TightDesk spoiled = solved(row(1));
        spoiled.task(1);
        due.is("a task spoils the answers", spoiled.length(), STALE);
    }

    private void promise3Constrain() {
        TightDesk desk = desk(1, 1);
        desk.solve();
        int[][] wrong = {
            {-1, -1, 0}, {0, 2, 0}, {2, 0, 0}, {0, -2, 0}, {-2, 0, 0}, {0, 1, 1001}, {0, 1, -1001},
            {MOST, 0, 0}, {0, LEAST, 0}, {0, 1, MOST}, {0, 1, LEAST}
        };
        for (int[] c : wrong) {
            due.is("constrain(" + c[0] + ", " + c[1] + ", " + c[2] + ")", desk.constrain(c[0], c[1], c[2]), NONE);
        }
        due.is("what is refused spoils nothing", desk.length(), 1);
        due.is("constrain(0, 1, 1000)", desk.constrain(0, 1, 1000), 0);
        due.is("a constraint spoils the answers", desk.length(), STALE);
        due.is("constrain(0, 1, -1000)", desk.constrain(0, 1, -1000), 1);
        due.is("constrain(-1, 0, 5)", desk.constrain(-1, 0, 5), 2);
        due.is("constrain(1, -1, -1000)", desk.constrain(1, -1, -1000), 3);
        due.is("constrain(1, 1, 0)", desk.constrain(1, 1, 0), 4);
        due.is("drop(4)", desk.drop(4), true);
        for (int c = 5; c < 120; c++) {
            due.is("constrain(0, 0, -1)", desk.constrain(0, 0, -1), c);
        }
        due.is("constrain(0, 0, -1), the 121st", desk.constrain(0, 0, -1), NONE);
        due.is("count(1)", desk.count(1), 120);
    }

    private void promise4Drop() {
        TightDesk desk = solved(row(2, 2), row(0, 1, 7), row(0, 1, 4));
        due.is("length() with both", desk.length(), 9);
        for (int wrong : row(-1, 2, 119, 120, 200, LEAST, MOST)) {
            due.is("drop(" + wrong + ")", desk.drop(wrong), false);
        }
        due.is("what is refused spoils nothing", desk.length(), 9);
        due.is("drop(0)", desk.drop(0), true);
        due.is("a drop spoils the answers", desk.length(), STALE);
        desk.solve();
        due.is("length() with one", desk.length(), 6);
        due.is("drop(0) again", desk.drop(0), false);
        due.is("it spoils nothing", desk.length(), 6);
        due.is("the next number", desk.constrain(0, 1, 1), 2);
        due.is("count(2)", desk.count(2), 1);
    }

    private void promise5Worker() {
        TightDesk desk = desk(1);
        for (int w = 0; w < 16; w++) {
            due.is("worker()", desk.worker(), w);
        }
        desk.solve();
        desk.assign(0);
        due.is("worker(), the 17th", desk.worker(), NONE);
        due.is("it spoils no match", desk.workerOf(0), NONE);
        due.is("count(3)", desk.count(3), 16);
        TightDesk other = desk(1);
        other.solve();
        other.assign(0);
        other.worker();
        due.is("a worker spoils the match", other.workerOf(0), STALE);
        due.is("but not the plan", other.length(), 1);
    }

    private void promise6Skill() {
        TightDesk desk = desk(1, 1);
        desk.worker();
        due.is("skill(0, 0)", desk.skill(0, 0), true);
        desk.solve();
        desk.assign(0);
        int[][] wrong = {{0, 0}, {2, 0}, {-1, 0}, {0, 1}, {0, -1}, {30, 0}, {0, 16}, {LEAST, 0}, {0, MOST}, {0, 32}};
        for (int[] s : wrong) {
            due.is("skill(" + s[0] + ", " + s[1] + ")", desk.skill(s[0], s[1]), false);
        }
        due.is("what is refused spoils no match", desk.workerOf(0), 0);
        due.is("count(4)", desk.count(4), 1);
        due.is("skill(1, 0)", desk.skill(1, 0), true);
        due.is("a skill spoils the match", desk.workerOf(0), STALE);
        due.is("but not the plan", desk.length(), 1);
        due.is("count(4)", desk.count(4), 2);
    }

    private void promise7Solve() {
        due.is("solve() of nothing", new TightDesk().solve(), 0);
        TightDesk desk = desk(1, 1);
        desk.constrain(0, 1, 3);
        desk.constrain(1, 0, -3);
        due.is("gaps that add up to 0", desk.solve(), 0);
        desk.constrain(1, 0, -2);
        due.is("gaps that add up to 1", desk.solve(), 1);
        desk.drop(2);
        due.is("solve() after drop(2)", desk.solve(), 0);
        TightDesk self = desk(1);
        self.constrain(0, 0, 0);
        due.is("a task to itself, gap 0", self.solve(), 0);
        self.constrain(0, 0, 1);
        due.is("a task to itself, gap 1", self.solve(), 1);
        TightDesk bound = desk(1);
        bound.constrain(0, -1, 0);
        due.is("at 0 at the latest", bound.solve(), 0);
        bound.constrain(0, -1, 1);
        due.is("ahead of the beginning", bound.solve(), 1);
    }

    private void promise8StartOfEach() {
        TightDesk desk = solved(row(3, 2, 4, 0), row(0, 1, 3), row(1, 2, 2), row(0, 2, 1), row(3, 3, 0));
        due.starts("earliest", desk, 0, 0, 3, 5, 0);
        due.starts("latest", desk, 1, 0, 3, 5, 9);
        due.starts("slack", desk, 2, 0, 0, 0, 9);
        due.starts("free", desk, 3, 0, 0, 0, 9);
    }

    private void promise8FreeAndLatest() {
        // Task 1 may wait for task 2, task 0 for task 1; both lie within the long task 3.
        TightDesk desk = solved(row(1, 1, 1, 20), row(0, 1, 2), row(1, 2, 3), row(0, 2, 4));
        due.starts("earliest", desk, 0, 0, 2, 5, 0);
        due.starts("latest", desk, 1, 14, 16, 19, 0);
        due.starts("slack", desk, 2, 14, 14, 14, 0);
        due.starts("free", desk, 3, 0, 0, 14, 0);
        // A negative gap lets a task start ahead; one to the origin ends its slack.
        TightDesk early = solved(row(2, 2, 9), row(0, 1, -1), row(1, -1, -4), row(-1, 0, 1));
        due.starts("earliest", early, 0, 1, 0, 0);
        due.starts("latest", early, 1, 5, 4, 0);
        due.starts("free", early, 3, 0, 4, 0);
        // A constraint from a task to itself leaves its free time as it is.
        TightDesk self = solved(row(1, 9), row(0, 0, -2));
        due.starts("free", self, 3, 8, 0);
        TightDesk dropped = solved(row(1, 1, 9), row(0, 1, 1));
        dropped.drop(0);
        dropped.solve();
        due.starts("free without the dropped one", dropped, 3, 8, 8, 0);
    }

    private void promise8NoneAndStale() {
        TightDesk desk = desk(1);
        due.is("start(0, 0) without answers", desk.start(0, 0), STALE);
        due.is("start(1, 0) without answers", desk.start(1, 0), NONE);
        due.is("start(0, 4) without answers", desk.start(0, 4), NONE);
        due.is("start(0, -1) without answers", desk.start(0, -1), NONE);
        desk.solve();
        for (int wrong : row(-1, 1, 29, 30, LEAST, MOST)) {
            due.is("start(" + wrong + ", 0)", desk.start(wrong, 0), NONE);
        }
        for (int wrong : row(-1, 4, LEAST, MOST)) {
            due.is("start(0, " + wrong + ")", desk.start(0, wrong), NONE);
        }
        desk.constrain(0, 0, 1);
        desk.solve();
        due.is("start(0, 0) with a circle", desk.start(0, 0), STALE);
        due.is("start(1, 0) with a circle", desk.start(1, 0), NONE);
    }

    /** Constraints told in the order in which each matters only after all the others. */
    private void promise8AnyOrder() {
        TightDesk early = new TightDesk();
        TightDesk late = new TightDesk();
        for (int t = 0; t < 30; t++) {
            early.task(0);
            late.task(t < 29 ? 0 : 1000);
        }
        for (int t = 29; t > 0; t--) {
            early.constrain(t - 1, t, 1);
        }
        early.constrain(-1, 0, 5);
        for (int t = 1; t < 29; t++) {
            late.constrain(t - 1, t, 1);
        }
        late.constrain(28, -1, -40);
        due.is("early: solve()", early.solve(), 0);
        due.is("late: solve()", late.solve(), 0);
        for (int t = 0; t < 29; t++) {
            due.is("early: start(" + t + ", 0)", early.start(t, 0), 5 + t);
            due.is("late: start(" + t + ", 1)", late.start(t, 1), 12 + t);
        }
        due.is("early: length()", early.length(), 34);
        due.is("early: delay(0, 7)", early.delay(0, 7), 41);
        due.is("late: delay(0, 12)", late.delay(0, 12), 1000);
        due.is("late: delay(0, 13)", late.delay(0, 13), -3);
    }

    private void promise9Length() {
        TightDesk desk = new TightDesk();
        desk.solve();
        due.is("length() without tasks", desk.length(), 0);
        due.is("one that ends in the middle", solved(row(9, 2), row(0, 1, 3)).length(), 9);
        due.is("one that ends last", solved(row(4, 2), row(0, 1, 3)).length(), 5);
        due.is("durations of 0", solved(row(0, 0)).length(), 0);
        due.is("from the origin", solved(row(4), row(-1, 0, 1000)).length(), 1004);
        due.is("with a circle", solved(row(4), row(0, 0, 1)).length(), STALE);
    }

    private void promise10Chain() {
        due.row("one task", solved(row(3)), 0, 0);
        due.row("a longer one", solved(row(3, 5)), 0, 1);
        due.row("three in a row", solved(row(3, 2, 4), row(0, 1, 3), row(1, 2, 2)), 0, 0, 1, 2);
        due.row("with a negative gap", solved(row(1, 1, 6), row(0, 1, 5), row(1, 2, -2)), 0, 0, 1, 2);
        due.row("not by a dropped one", droppedShortCut(), 0, 0, 1, 2);
        due.row("not by one with time left", solved(row(1, 1, 4), row(0, 1, 3), row(1, 2, 3), row(0, 2, 5)), 0, 0, 1, 2);
        due.row("through a gap of 0", solved(row(1, 4, 0), row(0, 2, 0), row(2, 1, 3)), 0, 2, 1);
    }

    private static TightDesk droppedShortCut() {
        TightDesk desk = solved(row(1, 1, 4), row(0, 1, 3), row(1, 2, 3), row(0, 2, 6));
        desk.drop(2);
        desk.solve();
        return desk;
    }

    private void promise10ChainTies() {
        due.row("the fewest tasks", solved(row(1, 1, 4), row(0, 1, 3), row(1, 2, 3), row(0, 2, 6)), 0, 0, 2);
        due.row("the first of the fewest", solved(row(1, 1, 1, 4), row(0, 2, 3), row(2, 3, 3), row(0, 1, 3), row(1, 3, 3)),
                0, 0, 1, 3);
        due.row("the first task first", solved(row(1, 1, 4, 4), row(1, 2, 3), row(0, 3, 3)), 0, 0, 3);
        due.row("fewer ahead of the first", solved(row(1, 1, 4, 7), row(0, 1, 1), row(1, 2, 2)), 0, 3);
        due.row("all alike", solved(row(2, 2, 2)), 0, 0);
    }

    private void promise10NoChain() {
        due.row("no tasks", solved(row()), 0);
        due.row("the origin alone", solved(row(2), row(-1, 0, 3)), 0);
        due.row("the origin ahead of two", solved(row(2, 2), row(-1, 0, 3), row(0, 1, 2)), 0);
        due.row("a gap of 0 from the origin", solved(row(2), row(-1, 0, 0)), 0, 0);
    }

    private void promise10Circle() {
        due.row("a task to itself", solved(row(1, 1), row(0, 1, 5), row(1, 1, 1)), 1, 1);
        due.row("ahead of the beginning", solved(row(1, 1), row(1, -1, 2)), 1, 0, 201);
        due.row("wherever it is begun", solved(row(1, 1, 1), row(2, 0, 1), row(1, 2, 1), row(0, 1, -1)), 1, 0, 2, 1);
        due.row("through the origin", solved(row(1, 1), row(0, 1, 4), row(1, -1, -6), row(-1, 0, 3)), 1, 0, 1, 2);
        due.row("not by the bound if that is kept", solved(row(1, 1), row(0, 1, 4), row(1, -1, -4), row(-1, 0, 1)),
                1, 0, 1, 2);
        due.row("not by a dropped one", circleAfterDrop(), 1, 0, 2);
    }

    private static TightDesk circleAfterDrop() {
        TightDesk desk = solved(row(1, 1), row(0, 1, 4), row(1, 0, 2), row(1, 0, -3));
        desk.drop(1);
        desk.solve();
        return desk;
    }

    private void promise10CircleTies() {
        due.row("the fewest", solved(row(1, 1, 1), row(0, 1, 9), row(1, 2, 9), row(2, 0, 9), row(1, 0, -8)), 1, 0, 3);
        due.row("the first of the fewest", solved(row(1, 1, 1, 1), row(2, 3, 1), row(0, 1, 1), row(1, 0, 0), row(3, 2, 0)),
                1, 0, 3);
        due.row("the least of alike ones", solved(row(1, 1), row(0, 1, 0), row(0, 1, 2), row(1, 0, 0), row(1, 0, 1)),
                1, 0, 3);
        due.row("not the least if that is kept", solved(row(1, 1), row(0, 1, -2), row(1, 0, 1), row(0, 1, 3)), 1, 1, 2);
        due.row("a bound goes behind constraints", solved(row(1, 1), row(1, -1, 1), row(-1, 1, 0)), 1, 0, 1);
        due.row("the least bound", solved(row(1, 1), row(1, 0, 0), row(0, 1, 0), row(0, -1, 1), row(1, -1, 1)), 1, 2, 200);
    }

    private void promise10LongestCircle() {
        TightDesk desk = new TightDesk();
        int[] numbers = new int[31];
        for (int t = 0; t < 30; t++) {
            desk.task(1);
        }
        for (int t = 1; t < 30; t++) {
            numbers[t - 1] = desk.constrain(t - 1, t, t == 1 ? 30 : -1);
        }
        numbers[29] = desk.constrain(29, -1, -1);
        numbers[30] = 200;
        due.is("longest circle: solve()", desk.solve(), 1);
        // Only the whole way round keeps task 0's gap of 30 ahead of all others together.
        due.row("longest circle", desk, 1, numbers);
    }

    private void promise10Refusals() {
        TightDesk desk = solved(row(3, 5));
        for (int wrong : row(-1, 1, 30, LEAST, MOST)) {
            due.is("row(0, " + wrong + ")", desk.row(0, wrong), NONE);
            due.is("row(1, " + wrong + ")", desk.row(1, wrong), NONE);
        }
        for (int wrong : row(-1, 2, LEAST, MOST)) {
            due.is("row(" + wrong + ", 0)", desk.row(wrong, 0), NONE);
        }
        desk.task(1);
        due.is("a stale chain", desk.row(0, 0), NONE);
        TightDesk circle = solved(row(3), row(0, 0, 1));
        due.is("a circle", circle.row(1, 0), 0);
        circle.constrain(0, 0, 1);
        due.is("a stale circle", circle.row(1, 0), NONE);
    }

    private void promise11Delay() {
        TightDesk desk = solved(row(3, 2, 4, 0), row(0, 1, 3), row(1, 2, 2), row(2, -1, -6));
        due.is("delay(0, 0)", desk.delay(0, 0), 9);
        due.is("delay(0, 1)", desk.delay(0, 1), 10);
        due.is("delay(0, 2), past the end of task 2", desk.delay(0, 2), -3);
        due.is("delay(2, 1)", desk.delay(2, 1), 10);
        due.is("delay(2, 2)", desk.delay(2, 2), -3);
        due.is("delay(3, 9), within the slack", desk.delay(3, 9), 9);
        due.is("delay(3, 10)", desk.delay(3, 10), 10);
        due.is("delay(3, 1000)", desk.delay(3, 1000), 1000);
        due.is("a delay is no answer that is kept", desk.start(3, 0), 0);
        due.is("nor is it told", desk.length(), 9);
        due.is("nor does it spoil", desk.check(0), 1);
        for (int wrong : row(-1, 1001, LEAST, MOST)) {
            due.is("delay(0, " + wrong + ")", desk.delay(0, wrong), NONE);
        }
        for (int wrong : row(-1, 4, LEAST, MOST)) {
            due.is("delay(" + wrong + ", 0)", desk.delay(wrong, 0), NONE);
        }
        TightDesk together = solved(row(1, 8), row(0, 1, 0), row(1, 0, 0));
        due.is("both move together", together.delay(0, 5), 13);
        together.drop(0);
        due.is("delay(0, 5), stale", together.delay(0, 5), STALE);
        due.is("delay(2, 5), stale", together.delay(2, 5), NONE);
        due.is("delay(0, -1), stale", together.delay(0, -1), NONE);
        due.is("delay(0, 1) with a circle", solved(row(1), row(0, 0, 1)).delay(0, 1), STALE);
    }

    private void promise12Busy() {
        TightDesk desk = solved(row(3, 2, 0), row(0, 1, 2), row(-1, 2, 1));
        int[] busy = {1, 1, 2, 1, 0};
        for (int time = 0; time < busy.length; time++) {
            due.is("busy(" + time + ")", desk.busy(time), busy[time]);
        }
        for (int time : row(-1, LEAST, MOST)) {
            due.is("busy(" + time + ")", desk.busy(time), 0);
        }
        desk.task(1);
        due.is("busy(0), stale", desk.busy(0), STALE);
        due.is("busy(0) with a circle", solved(row(1), row(0, 0, 1)).busy(0), STALE);
    }

    private void promise13Peak() {
        TightDesk desk = solved(row(3, 3, 3, 3), row(0, 1, 5), row(1, 2, 2), row(1, 3, 5));
        due.is("peak(0)", desk.peak(0), 7);
        due.is("peak(1)", desk.peak(1), 2);
        TightDesk twice = solved(row(2, 2, 2, 2), row(-1, 0, 9), row(-1, 1, 9), row(-1, 2, 4), row(-1, 3, 4));
        due.is("the first of two peaks", twice.peak(0), 4);
        due.is("how many", twice.peak(1), 2);
        TightDesk none = solved(row(0, 0), row(-1, 0, 5), row(-1, 1, 5));
        due.is("none ever runs: when", none.peak(0), 0);
        due.is("none ever runs: how many", none.peak(1), 0);
        TightDesk late = solved(row(1), row(-1, 0, 5));
        due.is("the only one: when", late.peak(0), 5);
        due.is("the only one: how many", late.peak(1), 1);
        for (int wrong : row(-1, 2, LEAST, MOST)) {
            due.is("peak(" + wrong + ")", late.peak(wrong), NONE);
        }
        late.task(1);
        due.is("peak(0), stale", late.peak(0), STALE);
        due.is("peak(1), stale", late.peak(1), STALE);
        due.is("peak(2), stale", late.peak(2), NONE);
        due.is("peak(0) with a circle", solved(row(1), row(0, 0, 1)).peak(0), STALE);
    }

    private void promise14Assign() {
        TightDesk desk = crew(3, row(0, 1), row(0), row(0), row(2), row());
        due.is("assign(0)", desk.assign(0), 3);
        due.is("assign(4)", desk.assign(4), 3);
        due.is("assign(5), all have ended", desk.assign(5), 0);
        due.is("assign(-1)", desk.assign(-1), 0);
        due.is("assign(least)", desk.assign(LEAST), 0);
        due.is("assign(most)", desk.assign(MOST), 0);
        TightDesk apart = crew(1, row(0), row(0));
        apart.constrain(0, 1, 5);
        due.is("assign(0), stale", apart.assign(0), STALE);
        apart.solve();
        due.is("assign(0), the first one", apart.assign(0), 1);
        due.workers("at 0", apart, 0, NONE);
        due.is("assign(5), the second one", apart.assign(5), 1);
        due.workers("at 5", apart, NONE, 0);
        apart.constrain(0, 0, 1);
        apart.solve();
        due.is("assign(0) with a circle", apart.assign(0), STALE);
    }

    private void promise14FirstMatch() {
        TightDesk way = crew(3, row(0, 1), row(0), row(1, 2));
        due.is("each gives way: assign(0)", way.assign(0), 3);
        due.workers("each gives way", way, 1, 0, 2);
        TightDesk least = crew(3, row(2, 1), row(2, 1), row(0));
        due.is("the least: assign(0)", least.assign(0), 3);
        due.workers("the least", least, 1, 2, 0);
        // Task 0 with its least worker leaves task 1 without one, but there are as many pairs.
        TightDesk left = crew(2, row(0, 1), row(0), row(1));
        due.is("one is left out: assign(0)", left.assign(0), 2);
        due.workers("one is left out", left, 0, NONE, 1);
        TightDesk many = crew(1, row(0), row(0), row(0));
        due.is("the first has it: assign(0)", many.assign(0), 1);
        due.workers("the first has it", many, 0, NONE, NONE);
        TightDesk pairs = crew(2, row(1), row(0, 1));
        due.is("more pairs ahead of less: assign(0)", pairs.assign(0), 2);
        due.workers("more pairs ahead of less", pairs, 1, 0);
        TightDesk late = crew(4, row(1, 2), row(1, 3), row(0, 1), row(), row(0), row(0, 3));
        due.is("a later one gives way: assign(0)", late.assign(0), 4);
        due.workers("a later one gives way", late, 2, 1, 0, NONE, NONE, 3);
    }

    /** 30 tasks and 16 workers; of the tasks t and t + 1 can be done by worker t, but for the last ones. */
    private void promise14WholeCrew() {
        int[][] skills = new int[30][];
        for (int t = 0; t < 30; t++) {
            skills[t] = t == 0 ? row(0) : t < 16 ? row(t - 1, t) : row(15);
        }
        TightDesk desk = crew(16, skills);
        due.is("the whole crew: assign(0)", desk.assign(0), 16);
        for (int t = 0; t < 30; t++) {
            due.is("the whole crew: workerOf(" + t + ")", desk.workerOf(t), t < 16 ? t : NONE);
            due.is("the whole crew: cover(0, " + t + ")", desk.cover(0, t), 0);
        }
        due.is("the whole crew: cover(1, 15)", desk.cover(1, 15), 1);
        due.is("the whole crew: count(9)", desk.count(9), 16);
    }

    /** The last task needs the worker of the first, who needs that of the second, and so on. */
    private void promise14AllShift() {
        int[][] skills = new int[16][];
        for (int t = 0; t < 16; t++) {
            skills[t] = t < 15 ? row(t, t + 1) : row(0);
        }
        TightDesk desk = crew(16, skills);
        due.is("all shift: assign(0)", desk.assign(0), 16);
        for (int t = 0; t < 16; t++) {
            due.is("all shift: workerOf(" + t + ")", desk.workerOf(t), t < 15 ? t + 1 : 0);
        }
    }

    private void promise15WorkerOf() {
        TightDesk desk = crew(2, row(1), row(1));
        due.is("workerOf(0) without a match", desk.workerOf(0), STALE);
        due.is("workerOf(9) without a match", desk.workerOf(9), STALE);
        desk.assign(0);
        due.workers("a match", desk, 1, NONE, NONE);
        for (int wrong : row(-1, 2, 29, 30, LEAST, MOST)) {
            due.is("workerOf(" + wrong + ")", desk.workerOf(wrong), NONE);
        }
        desk.solve();
        due.is("workerOf(0) after solve()", desk.workerOf(0), STALE);
        desk.assign(0);
        desk.drop(0);
        due.is("workerOf(0) after what did nothing", desk.workerOf(0), 1);
        desk.constrain(0, 1, 1);
        due.is("workerOf(0) after constrain()", desk.workerOf(0), STALE);
        due.is("a refused assign(0)", desk.assign(0), STALE);
        due.is("workerOf(0) after that", desk.workerOf(0), STALE);
        desk.solve();
        desk.assign(0);
        desk.drop(0);
        due.is("workerOf(0) after drop()", desk.workerOf(0), STALE);
        desk.solve();
        desk.assign(0);
        desk.task(1);
        due.is("workerOf(0) after task()", desk.workerOf(0), STALE);
    }

    private void promise16Cover() {
        TightDesk desk = crew(4, row(0, 1), row(0), row(0), row(2), row());
        due.is("cover(0, 0) without a match", desk.cover(0, 0), STALE);
        due.is("cover(2, 0) without a match", desk.cover(2, 0), STALE);
        due.is("cover(0, 9) without a match", desk.cover(0, 9), STALE);
        desk.assign(0);
        due.cover("tasks", desk, 0, 1, 0, 0, 1, 0, NONE);
        due.cover("workers", desk, 1, 1, 0, 0, 0, NONE);
        due.is("count(9)", desk.count(9), 3);
        int[][] wrong = {{2, 0}, {-1, 0}, {0, -1}, {1, -1}, {0, 30}, {1, 16}, {0, LEAST}, {1, MOST}, {LEAST, 0}, {0, 32}};
        for (int[] c : wrong) {
            due.is("cover(" + c[0] + ", " + c[1] + ")", desk.cover(c[0], c[1]), NONE);
        }
        desk.assign(5);
        due.cover("none runs: tasks", desk, 0, 0, 0, 0, 0, 0, NONE);
        due.cover("none runs: workers", desk, 1, 0, 0, 0, 0, NONE);
        desk.worker();
        due.is("cover(0, 0) after worker()", desk.cover(0, 0), STALE);
        TightDesk all = crew(2, row(0, 1), row(0, 1));
        all.assign(0);
        due.cover("each has one: tasks", all, 0, 1, 1);
        due.cover("each has one: workers", all, 1, 0, 0);
    }

    private void promise17Times() {
        TightDesk desk = solved(row(3, 2), row(0, 1, 3));
        due.is("check(0)", desk.check(0), 1);
        desk.constrain(0, 1, 2);
        due.is("check(0), stale but right", desk.check(0), 1);
        desk.constrain(0, 1, 4);
        due.is("check(0), another earliest", desk.check(0), 0);
        desk.drop(2);
        due.is("check(0), right again", desk.check(0), 1);
        desk.task(0);
        due.is("check(0), a task more", desk.check(0), 0);
        desk.solve();
        desk.constrain(2, -1, -2);
        due.is("check(0), another latest", desk.check(0), 0);
        desk.drop(3);
        desk.constrain(0, 0, 1);
        due.is("check(0), no starts now", desk.check(0), 0);
        desk.solve();
        due.is("check(0), a circle is kept", desk.check(0), NONE);
        TightDesk empty = solved(row());
        due.is("check(0), nothing told", empty.check(0), 1);
        empty.task(0);
        due.is("check(0), the first task", empty.check(0), 0);
        for (int wrong : row(-1, 3, LEAST, MOST)) {
            due.is("check(" + wrong + ")", empty.check(wrong), NONE);
        }
        due.is("a check is no solve()", empty.count(6), 1);
    }

    private void promise17Circle() {
        TightDesk desk = solved(row(3, 2), row(0, 1, 3), row(1, 0, -2), row(1, -1, -2), row(0, 0, -1));
        due.is("check(1)", desk.check(1), 1);
        desk.task(3);
        due.is("check(1), stale but right", desk.check(1), 1);
        desk.drop(3);
        due.is("check(1), another one dropped", desk.check(1), 1);
        desk.drop(1);
        due.is("check(1), one of it dropped", desk.check(1), 0);
        due.is("solve()", desk.solve(), 1);
        due.row("the next circle, with a bound", desk, 1, 0, 2, 200);
        due.is("check(1), with a bound", desk.check(1), 1);
        desk.drop(2);
        due.is("check(1), the bound alone is left", desk.check(1), 0);
        desk.solve();
        due.is("check(1), starts are kept", desk.check(1), NONE);
    }

    private void promise17Match() {
        TightDesk desk = crew(3, row(0, 1), row(0), row(0), row(2), row());
        due.is("check(2), no match", desk.check(2), NONE);
        desk.assign(3);
        due.is("check(2)", desk.check(2), 1);
        desk.skill(3, 1);
        due.is("check(2), a skill of a covered task", desk.check(2), 1);
        desk.skill(4, 0);
        due.is("check(2), a skill of a covered worker", desk.check(2), 1);
        desk.constrain(0, 1, 3);
        due.is("check(2), it still runs", desk.check(2), 1);
        desk.constrain(0, 1, 4);
        due.is("check(2), one of the match runs later", desk.check(2), 0);
        desk.drop(1);
        desk.constrain(0, 4, 4);
        due.is("check(2), one without a worker runs later", desk.check(2), 0);
        desk.drop(2);
        desk.task(3);
        due.is("check(2), a task more, ended by then", desk.check(2), 1);
        desk.skill(5, 1);
        due.is("check(2), a skill of one that does not run", desk.check(2), 1);
        desk.task(4);
        due.is("check(2), a task more that runs", desk.check(2), 0);
        desk.constrain(-1, 6, 4);
        due.is("check(2), it runs later", desk.check(2), 1);
        desk.skill(2, 1);
        due.is("check(2), a skill beside the cover", desk.check(2), 0);
    }

    private void promise17KeptMatch() {
        TightDesk desk = crew(1, row(0));
        desk.assign(0);
        desk.solve();
        due.is("check(2), kept through solve()", desk.check(2), 1);
        desk.constrain(0, 0, 1);
        due.is("check(2), no starts now", desk.check(2), 0);
        desk.solve();
        due.is("check(2), a circle", desk.check(2), 0);
        due.is("assign(9), refused", desk.assign(9), STALE);
        desk.drop(0);
        due.is("check(2), at the time of the latest that was not refused", desk.check(2), 1);
        desk.solve();
        due.is("assign(9)", desk.assign(9), 0);
        due.is("check(2), none runs", desk.check(2), 1);
        desk.constrain(-1, 0, 9);
        due.is("check(2), it runs now", desk.check(2), 0);
        TightDesk fresh = desk(1);
        fresh.constrain(0, 0, 1);
        fresh.solve();
        due.is("check(2), no match and no starts", fresh.check(2), NONE);
        TightDesk newcomer = crew(1, row());
        newcomer.assign(0);
        newcomer.worker();
        newcomer.skill(0, 1);
        due.is("check(2), a new worker's skill", newcomer.check(2), 0);
    }

    private void promise18Count() {
        TightDesk desk = crew(3, row(0, 1), row(0));
        desk.constrain(0, 1, 1);
        desk.constrain(0, 1, 2);
        desk.drop(0);
        desk.solve();
        desk.assign(2);
        int[] counts = {2, 2, 1, 3, 3, 0, 0, 2, 0, 2};
        for (int what = 0; what < counts.length; what++) {
            due.is("count(" + what + ")", desk.count(what), counts[what]);
        }
        for (int wrong : row(-1, 10, LEAST, MOST)) {
            due.is("count(" + wrong + ")", desk.count(wrong), NONE);
        }
        desk.constrain(1, 0, -1);
        desk.solve();
        int[] withCircle = {2, 3, 1, 3, 3, 1, 0, 0, 2, 0};
        for (int what = 0; what < withCircle.length; what++) {
            due.is("with a circle: count(" + what + ")", desk.count(what), withCircle[what]);
        }
    }

    private void promise18Stale() {
        TightDesk desk = crew(1, row(0), row(0));
        desk.assign(0);
        due.is("count(9)", desk.count(9), 1);
        desk.worker();
        due.is("count(9) after worker()", desk.count(9), 0);
        due.is("count(6) after worker()", desk.count(6), 0);
        due.is("count(7) after worker()", desk.count(7), 1);
        desk.task(1);
        due.is("count(5), stale", desk.count(5), 0);
        due.is("count(6), stale", desk.count(6), 1);
        due.is("count(7), stale", desk.count(7), 0);
        desk.constrain(0, 0, 1);
        desk.solve();
        due.is("count(8)", desk.count(8), 1);
        desk.drop(0);
        due.is("count(5), a stale circle", desk.count(5), 1);
        due.is("count(6), a stale circle", desk.count(6), 1);
        due.is("count(8), a stale circle", desk.count(8), 0);
    }

    /** As many of all as there may be, and the last of each matters. */
    private static TightDesk fullDesk(int gap, int lastFrom, int lastTo, int lastGap) {
        TightDesk desk = new TightDesk();
        for (int t = 0; t < 30; t++) {
            desk.task(1000);
        }
        for (int w = 0; w < 16; w++) {
            desk.worker();
        }
        for (int t = 1; t < 29; t++) {
            desk.constrain(t - 1, t, gap);
        }
        for (int c = 28; c < 119; c++) {
            desk.constrain(c % 29, c % 29, -1);
        }
        desk.constrain(lastFrom, lastTo, lastGap);
        return desk;
    }

    private void fullDeskWithStarts() {
        TightDesk desk = fullDesk(1000, 28, 29, 1000);
        int[] tasks = new int[30];
        for (int t = 0; t < 30; t++) {
            tasks[t] = t;
            desk.skill(t, 15);
        }
        due.is("full: count(1)", desk.count(1), 120);
        due.is("full: solve()", desk.solve(), 0);
        due.is("full: length()", desk.length(), 30000);
        due.row("full", desk, 0, tasks);
        due.is("full: start(29, 0)", desk.start(29, 0), 29000);
        due.is("full: start(28, 3)", desk.start(28, 3), 0);
        due.is("full: start(29, 1)", desk.start(29, 1), 29000);
        due.is("full: delay(0, 1000)", desk.delay(0, 1000), 31000);
        due.is("full: busy(29999)", desk.busy(29999), 1);
        due.is("full: peak(0)", desk.peak(0), 0);
        due.is("full: assign(29999)", desk.assign(29999), 1);
        due.is("full: workerOf(29)", desk.workerOf(29), 15);
        due.is("full: check(0)", desk.check(0), 1);
        due.is("full: check(2)", desk.check(2), 1);
        due.is("full: drop(119)", desk.drop(119), true);
        due.is("full: check(0) after drop(119)", desk.check(0), 0);
        due.is("full: check(2) after drop(119)", desk.check(2), 0);
        desk.solve();
        due.is("full: length() after drop(119)", desk.length(), 29000);
        due.is("full: start(29, 2) after drop(119)", desk.start(29, 2), 28000);
    }

    private void fullDeskWithCircle() {
        TightDesk desk = fullDesk(1, 28, 0, -27);
        int[] numbers = new int[29];
        for (int i = 0; i < 29; i++) {
            numbers[i] = i < 28 ? i : 119;
        }
        due.is("full circle: solve()", desk.solve(), 1);
        due.row("full circle", desk, 1, numbers);
        due.is("full circle: check(1)", desk.check(1), 1);
        due.is("full circle: drop(119)", desk.drop(119), true);
        due.is("full circle: check(1) after drop(119)", desk.check(1), 0);
        due.is("full circle: solve() after drop(119)", desk.solve(), 0);
        due.is("full circle: length() after drop(119)", desk.length(), 1028);
    }
}
