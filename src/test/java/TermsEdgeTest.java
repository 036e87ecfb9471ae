import java.lang.reflect.InvocationTargetException;

/** The boundary cases that "What it is" and "Terms" name, but for what is kept and what is STALE. */
public final class TermsEdgeTest extends Edges {
    public static void main(String[] args) throws IllegalAccessException, InvocationTargetException {
        new TermsEdgeTest().holdEachSentence();
    }

    @Sentence("An object is used for at most 512 calls after it has been made")
    void allOf512Calls() {
        TightDesk desk = fullOfTasks(1000);
        int calls = 30;
        for (int t = 0; t < 29; t++, calls++) {
            due.is("constrain", desk.constrain(t, t + 1, 1000), t);
        }
        for (; calls + 3 <= 512; calls += 3) {
            due.is("solve()", desk.solve(), 0);
            due.is("length()", desk.length(), 30000);
            due.is("assign(0)", desk.assign(0), 0);
        }
        for (; calls < 512; calls++) {
            due.is("call " + (calls + 1), desk.start(29, 0), 29000);
        }
    }

    @Sentence("TASKS 0 .. 29 have a DURATION")
    void firstAndLastTask() {
        TightDesk desk = new TightDesk();
        due.is("the first", desk.task(7), 0);
        for (int t = 1; t < 29; t++) {
            desk.task(1);
        }
        due.is("the last", desk.task(9), 29);
        desk.solve();
        due.is("length()", desk.length(), 9);
        due.is("start(0, 1)", desk.start(0, 1), 2);
        due.is("start(29, 1)", desk.start(29, 1), 0);
        due.is("start(28, 1)", desk.start(28, 1), 8);
        due.is("busy(0)", desk.busy(0), 30);
        due.is("busy(8)", desk.busy(8), 1);
        due.is("start(30, 0)", desk.start(30, 0), NONE);
    }

    @Sentence("the ORIGIN is told as -1, it starts at 0")
    void origin() {
        TightDesk desk = solved(row(1, 9), row(-1, 0, 5), row(0, -1, -6));
        due.starts("from it and to it: earliest", desk, 0, 5, 0);
        due.starts("from it and to it: latest", desk, 1, 6, 0);
        due.is("it never starts later: delay(0, 1)", desk.delay(0, 1), 9);
        due.is("it never starts later: delay(0, 2)", desk.delay(0, 2), -3);
        due.is("it is no task: start(-1, 0)", desk.start(-1, 0), NONE);
        due.is("it is no task: delay(-1, 0)", desk.delay(-1, 0), NONE);
        due.is("nothing else is it: constrain(-2, 0, 0)", desk.constrain(-2, 0, 0), NONE);
    }

    @Sentence("the ORIGIN is told as -1")
    void originIsNotTask30() {
        TightDesk desk = fullOfTasks(1);
        desk.worker();
        due.is("constrain(30, 0, 5)", desk.constrain(30, 0, 5), NONE);
        due.is("constrain(0, 30, -5)", desk.constrain(0, 30, -5), NONE);
        due.is("skill(30, 0)", desk.skill(30, 0), false);
        due.is("skill(-1, 0)", desk.skill(-1, 0), false);
        desk.solve();
        desk.assign(0);
        for (int wrong : row(30, -1)) {
            due.is("start(" + wrong + ", 0)", desk.start(wrong, 0), NONE);
            due.is("delay(" + wrong + ", 1)", desk.delay(wrong, 1), NONE);
            due.is("workerOf(" + wrong + ")", desk.workerOf(wrong), NONE);
            due.is("cover(0, " + wrong + ")", desk.cover(0, wrong), NONE);
        }
    }

    @Sentence("BOUNDS: of each TASK t one, with the number 200 + t, from the ORIGIN to it, GAP 0")
    void bounds() {
        TightDesk first = solved(row(1, 1), row(0, -1, 1));
        due.row("of the first task", first, 1, 0, 200);
        TightDesk last = fullOfTasks(1);
        last.constrain(29, -1, 1);
        last.solve();
        due.row("of the last task", last, 1, 0, 229);
        due.is("they are no constraints: count(1)", last.count(1), 1);
        due.is("they can't be dropped: drop(229)", last.drop(229), false);
        TightDesk early = solved(row(1, 1), row(-1, 0, -1000), row(0, 1, -1000));
        due.starts("none starts ahead of 0", early, 0, 0, 0);
        TightDesk zero = solved(row(1), row(0, -1, 0));
        due.starts("at 0 alone", zero, 1, 0);
        due.is("at 0 alone: count(5)", zero.count(5), 0);
        due.row("0 is no circle", solved(row(1, 1, 1), row(0, -1, 0), row(1, 2, 1), row(2, 1, 0)), 1, 1, 2);
    }

    @Sentence("CONSTRAINTS have numbers 0 .. 119, as they come")
    void firstAndLastConstraint() {
        TightDesk desk = desk(1, 2);
        due.is("refused", desk.constrain(0, 1, 1001), NONE);
        due.is("the first", desk.constrain(0, 1, 3), 0);
        for (int c = 1; c < 119; c++) {
            desk.constrain(0, 1, 0);
            due.is("refused again", desk.constrain(0, 2, 0), NONE);
        }
        due.is("the last", desk.constrain(0, 1, 8), 119);
        desk.solve();
        due.is("length()", desk.length(), 10);
        desk.drop(119);
        desk.solve();
        due.is("length() without the last", desk.length(), 5);
        desk.drop(0);
        desk.solve();
        due.is("length() without the first", desk.length(), 2);
    }

    @Sentence("CONSTRAINTS have numbers 0 .. 119")
    void startsOfAFullDesk() {
        TightDesk desk = fullOfTasks(1000);
        for (int c = 0; c < 91; c++) {
            desk.constrain(0, 0, 0);
        }
        for (int t = 0; t < 29; t++) {
            desk.constrain(t, t + 1, 1000);
        }
        due.is("count(1)", desk.count(1), 120);
        due.is("solve()", desk.solve(), 0);
        for (int t = 0; t < 30; t++) {
            due.is("start(" + t + ", 0)", desk.start(t, 0), t * 1000);
            due.is("start(" + t + ", 1)", desk.start(t, 1), t * 1000);
            due.is("start(" + t + ", 2)", desk.start(t, 2), 0);
            due.is("start(" + t + ", 3)", desk.start(t, 3), 0);
            due.is("row(0, " + t + ")", desk.row(0, t), t);
            due.is("delay(" + t + ", 1)", desk.delay(t, 1), 30001);
        }
        due.is("peak(0)", desk.peak(0), 0);
        due.is("peak(1)", desk.peak(1), 1);
        due.is("busy(29999)", desk.busy(29999), 1);
        due.is("assign(29999)", desk.assign(29999), 0);
        due.is("check(0)", desk.check(0), 1);
        due.is("check(2)", desk.check(2), 1);
        desk.drop(119);
        due.is("check(0) without 119", desk.check(0), 0);
        due.is("check(2) without 119", desk.check(2), 0);
    }

    @Sentence("CONSTRAINTS have numbers 0 .. 119")
    void circleOfAFullDesk() {
        TightDesk desk = fullOfTasks(1000);
        int[] numbers = new int[30];
        for (int c = 0; c < 90; c++) {
            desk.constrain(0, 0, 0);
        }
        for (int t = 0; t < 29; t++) {
            numbers[t] = desk.constrain(t, t + 1, 1);
        }
        numbers[29] = desk.constrain(29, 0, -28);
        due.is("count(1)", desk.count(1), 120);
        due.is("solve()", desk.solve(), 1);
        due.row("90 .. 119", desk, 1, numbers);
        due.is("check(1)", desk.check(1), 1);
        desk.drop(0);
        due.is("check(1) without 0", desk.check(1), 1);
        due.is("solve() without 0", desk.solve(), 1);
        due.row("90 .. 119 without 0", desk, 1, numbers);
        desk.drop(119);
        due.is("check(1) without 119", desk.check(1), 0);
        due.is("solve() without 119", desk.solve(), 0);
    }

    @Sentence("dropped ones keep theirs, and count no more")
    void droppedOnes() {
        // The dropped 1 would make task 1 later, the dropped 3 task 0 earlier, the dropped 4 a circle.
        TightDesk desk = told(row(2, 2, 9), row(0, 1, 3), row(0, 1, 5), row(1, -1, -6), row(0, -1, -1), row(1, 1, 1));
        for (int c : row(1, 3, 4)) {
            due.is("drop(" + c + ")", desk.drop(c), true);
        }
        due.is("the next number", desk.constrain(0, 0, 0), 5);
        due.is("count(1)", desk.count(1), 6);
        due.is("solve()", desk.solve(), 0);
        due.starts("earliest", desk, 0, 0, 3, 0);
        due.starts("latest", desk, 1, 3, 6, 0);
        due.starts("free", desk, 3, 0, 3, 0);
        due.is("delay(0, 3)", desk.delay(0, 3), 9);
        due.is("delay(0, 4)", desk.delay(0, 4), -3);
        due.is("busy(3)", desk.busy(3), 2);
        desk.constrain(0, 1, 7);
        desk.solve();
        due.row("the circle has numbers as they were told", desk, 1, 2, 200, 6);
        desk.constrain(0, 1, 8);
        desk.drop(6);
        desk.solve();
        due.row("the next circle is without the dropped one", desk, 1, 2, 200, 7);
        TightDesk chain = told(row(1, 1, 5), row(0, 2, 4), row(0, 1, 2), row(1, 2, 2));
        chain.drop(0);
        chain.solve();
        due.row("the chain", chain, 0, 0, 1, 2);
    }

    @Sentence("TASKS, or one of them the ORIGIN; a may be b")
    void fromATaskToItself() {
        for (int gap : row(0, -1, -1000)) {
            TightDesk desk = desk(3, 9);
            due.is("constrain(0, 0, " + gap + ")", desk.constrain(0, 0, gap), 0);
            due.is("solve(), " + gap, desk.solve(), 0);
            due.starts("earliest, " + gap, desk, 0, 0, 0);
            due.starts("latest, " + gap, desk, 1, 6, 0);
            due.starts("free, " + gap, desk, 3, 6, 0);
        }
        for (int gap : row(1, 1000)) {
            TightDesk desk = desk(3, 9);
            due.is("constrain(1, 1, " + gap + ")", desk.constrain(1, 1, gap), 0);
            due.is("solve(), " + gap, desk.solve(), 1);
            due.row("alone, " + gap, desk, 1, 0);
        }
    }

    @Sentence("GAP -1000 .. 1000: b's START is at least a's and the GAP")
    void gaps() {
        due.starts("1000", solved(row(1, 1), row(0, 1, 1000)), 0, 0, 1000);
        due.starts("1", solved(row(1, 1), row(0, 1, 1)), 0, 0, 1);
        due.starts("0", solved(row(1, 1), row(0, 1, 0)), 0, 0, 0);
        TightDesk three = solved(row(0, 10), row(0, 1, -3));
        due.is("-3: delay(0, 3)", three.delay(0, 3), 10);
        due.is("-3: delay(0, 4)", three.delay(0, 4), 11);
        due.starts("-1000", solved(row(1, 1, 1), row(-1, 2, 1), row(2, 0, 1000), row(0, 1, -1000)), 0, 1001, 1, 1);
        due.starts("-1000 to the origin", solved(row(0, 1000, 1), row(0, -1, -1000), row(2, -1, -999)),
                1, 1000, 0, 999);
    }

    @Sentence("STARTS: a whole number for each TASK, such that all BOUNDS and CONSTRAINTS are kept")
    void justKept() {
        due.is("no tasks", new TightDesk().solve(), 0);
        due.is("no constraints", desk(1).solve(), 0);
        due.is("0 round", told(row(1, 1), row(0, 1, 1000), row(1, 0, -1000)).solve(), 0);
        due.is("1 round", told(row(1, 1), row(0, 1, 1000), row(1, 0, -999)).solve(), 1);
        due.is("as late as may be", told(row(1, 1), row(-1, 0, 3), row(0, 1, 4), row(1, -1, -7)).solve(), 0);
        due.is("too late by one", told(row(1, 1), row(-1, 0, 3), row(0, 1, 4), row(1, -1, -6)).solve(), 1);
    }

    @Sentence("EARLIEST of a TASK: the least that it has in any STARTS")
    void leastStarts() {
        due.starts("nothing told of it", solved(row(1000)), 0, 0);
        due.starts("the greater gap of two", solved(row(1, 1), row(0, 1, 4), row(0, 1, 7)), 0, 0, 7);
        due.starts("the later way of two", solved(row(0, 0, 0), row(0, 1, 4), row(1, 2, 4), row(0, 2, 7)), 0, 0, 4, 8);
        due.starts("by one that comes behind it", solved(row(0, 0), row(1, 0, 2), row(-1, 1, 3)), 0, 5, 3);
        TightDesk most = fullOfTasks(0);
        most.constrain(-1, 29, 1000);
        for (int t = 29; t > 0; t--) {
            most.constrain(t, t - 1, 1000);
        }
        most.solve();
        due.is("as late as any: start(0, 0)", most.start(0, 0), 30000);
    }

    @Sentence("LENGTH: the greatest EARLIEST and DURATION together; 0 without TASKS")
    void lengths() {
        due.is("without tasks", solved(row()).length(), 0);
        due.is("one of duration 0", solved(row(0)).length(), 0);
        due.is("one of duration 0 that starts later", solved(row(0, 1), row(-1, 0, 2)).length(), 2);
        due.is("the first is the longest", solved(row(9, 8, 7)).length(), 9);
        due.is("not the one that starts last", solved(row(9, 2), row(0, 1, 3)).length(), 9);
        due.is("not the longest", solved(row(9, 2), row(0, 1, 8)).length(), 10);
        TightDesk most = fullOfTasks(1000);
        most.constrain(-1, 0, 1000);
        for (int t = 1; t < 30; t++) {
            most.constrain(t - 1, t, 1000);
        }
        most.solve();
        due.is("the longest of all", most.length(), 31000);
    }

    @Sentence("in STARTS in which each TASK's START and DURATION are not above LENGTH")
    void latestStarts() {
        due.starts("as long as the project", solved(row(6)), 1, 0);
        due.starts("of duration 0, at the end", solved(row(6, 0)), 1, 0, 6);
        due.starts("another one's end", solved(row(1, 5, 9), row(0, 1, 2)), 1, 2, 4, 0);
        due.starts("a negative gap to one that can't move", solved(row(1, 9), row(0, 1, -4)), 1, 4, 0);
        due.starts("not later than another allows", solved(row(1, 9, 1), row(0, 2, 0), row(2, -1, -3)), 1, 3, 0, 3);
        due.starts("the gap from the origin leaves it", solved(row(1, 9), row(-1, 0, 2)), 1, 8, 0);
    }

    @Sentence("SLACK: LATEST less EARLIEST")
    void slacks() {
        due.starts("none", solved(row(6)), 2, 0);
        due.starts("all of the project", solved(row(6, 0)), 2, 0, 6);
        due.starts("from a later start", solved(row(1, 9), row(-1, 0, 2)), 2, 6, 0);
        due.starts("held by both sides", solved(row(1, 9), row(-1, 0, 2), row(0, -1, -2)), 2, 0, 0);
    }

    @Sentence("FREE of a TASK: the least of LENGTH less EARLIEST and DURATION")
    void freeToTheEnd() {
        due.starts("it ends last", solved(row(6)), 3, 0);
        due.starts("of duration 0, at the end", solved(row(6, 0), row(-1, 1, 6)), 3, 0, 0);
        due.starts("of duration 0, at the beginning", solved(row(6, 0)), 3, 0, 6);
        due.starts("from the origin leaves it", solved(row(6, 1), row(-1, 1, 3)), 3, 0, 2);
        due.starts("to it leaves it", solved(row(1, 6, 1), row(0, 2, 3)), 3, 0, 0, 2);
        due.starts("less than to the next", solved(row(9, 1, 1), row(0, 1, 2), row(2, 1, 9)), 3, 1, 0, 0);
    }

    @Sentence("for each CONSTRAINT from it to another one or the ORIGIN, of that one's EARLIEST (the ORIGIN's 0)")
    void freeToTheNext() {
        due.starts("to another one", solved(row(1, 1, 9), row(0, 1, 2), row(-1, 1, 5)), 3, 3, 3, 0);
        due.starts("no time to another one", solved(row(1, 1, 9), row(0, 1, 2)), 3, 0, 6, 0);
        due.starts("a negative gap", solved(row(1, 1, 9), row(0, 1, -3)), 3, 3, 8, 0);
        due.starts("to the origin", solved(row(1, 9), row(0, -1, -4)), 3, 4, 0);
        due.starts("no time to the origin", solved(row(1, 9), row(0, -1, 0)), 3, 0, 0);
        due.starts("to the origin, from later on", solved(row(1, 9), row(-1, 0, 3), row(0, -1, -4)), 3, 1, 0);
        due.starts("not to itself", solved(row(1, 9), row(0, 0, -3)), 3, 8, 0);
        due.starts("the least of more", solved(row(1, 1, 9), row(0, 1, -3), row(0, -1, -2), row(0, 2, -7)), 3, 2, 8, 0);
    }

    @Sentence("FIRST of rows of as many numbers is the one with the least number where they differ for the first time")
    void firstOfRows() {
        TightDesk chains = solved(row(1, 1, 1, 1, 5), row(0, 2, 1), row(2, 4, 4), row(0, 3, 1), row(3, 4, 4),
                row(1, 2, 1));
        due.row("0 2 4 ahead of 0 3 4 and 1 2 4", chains, 0, 0, 2, 4);
        TightDesk circles = solved(row(1, 1), row(0, 1, 5), row(1, 0, -5), row(1, 0, -4), row(1, 0, -3));
        due.row("0 2 ahead of 0 3", circles, 1, 0, 2);
        TightDesk match = assigned(3, row(0, 1), row(0, 1), row(1, 2));
        due.workers("0 1 2 ahead of 1 0 2", match, 0, 1, 2);
    }

    @Sentence("A CIRCLE, if there are no STARTS")
    void noCircleWithStarts() {
        TightDesk desk = solved(row(1, 1), row(0, 1, 4), row(1, 0, -4));
        due.is("count(8)", desk.count(8), 0);
        due.is("row(1, 0)", desk.row(1, 0), NONE);
        due.is("check(1)", desk.check(1), NONE);
    }

    @Sentence("each from where the one ahead of it goes to, the first one from where the last one goes to")
    void circleGoesRound() {
        due.row("one", solved(row(1, 1), row(0, 1, 1), row(1, 1, 2)), 1, 1);
        due.row("two", solved(row(1, 1), row(1, 0, 2), row(1, 0, 3), row(0, 1, -1)), 1, 0, 2);
        due.row("against the order told", solved(row(1, 1, 1), row(2, 1, 1), row(0, 2, 1), row(1, 0, 1)), 1, 0, 2, 1);
        due.row("in the order told", solved(row(1, 1, 1), row(2, 1, 1), row(1, 0, 1), row(0, 2, 1)), 1, 0, 1, 2);
        due.row("by the origin", solved(row(1, 1), row(-1, 1, 9), row(0, -1, -8), row(1, 0, 0)), 1, 0, 2, 1);
    }

    @Sentence("none of the TASKS and the ORIGIN twice")
    void circleThroughAllPlaces() {
        TightDesk desk = fullOfTasks(0);
        int[] numbers = new int[31];
        // Only the whole way round passes the gap of 30, and all others together take 29 of it.
        for (int t = 29; t > 0; t--) {
            numbers[29 - t] = desk.constrain(t, t - 1, t == 29 ? 30 : -1);
        }
        numbers[29] = desk.constrain(0, -1, -1);
        numbers[30] = 229;
        due.is("solve()", desk.solve(), 1);
        due.row("31 numbers", desk, 1, numbers);
        due.is("row(1, 31)", desk.row(1, 31), NONE);
        due.is("check(1)", desk.check(1), 1);
        desk.drop(29);
        due.is("check(1) without the last constraint", desk.check(1), 0);
    }

    @Sentence("the GAPS above 0 together")
    void gapsTogether() {
        due.is("0", told(row(1, 1, 1), row(0, 1, 5), row(1, 2, -2), row(2, 0, -3)).solve(), 0);
        due.row("1", solved(row(1, 1, 1), row(0, 1, 5), row(1, 2, -2), row(2, 0, -2)), 1, 0, 1, 2);
        due.row("with a bound, 1", solved(row(1), row(0, -1, 1)), 1, 0, 200);
        due.row("0 is passed by", solved(row(1, 1), row(0, 0, 0), row(0, 1, 2), row(1, 0, -2), row(1, 0, -1)), 1, 1, 3);
        due.row("the greatest", solved(row(1, 1), row(0, 1, 1000), row(1, 0, 1000)), 1, 0, 1);
    }

    @Sentence("of those with the fewest the FIRST, wherever it is begun")
    void circleOfTheFewest() {
        due.row("one ahead of two", solved(row(1, 1), row(0, 1, 9), row(1, 0, 9), row(1, 1, 1)), 1, 2);
        due.row("two ahead of three", solved(row(1, 1, 1), row(0, 1, 9), row(1, 2, 9), row(2, 0, 9), row(2, 1, -8)),
                1, 1, 3);
        due.row("the least of ones", solved(row(1, 1), row(1, 1, 1), row(0, 0, 1)), 1, 0);
        due.row("begun by its least", solved(row(1, 1, 1), row(1, 2, 1), row(0, 1, 1), row(2, 0, 1)), 1, 0, 2, 1);
        due.row("begun by a constraint to the origin", solved(row(1), row(0, -1, 1)), 1, 0, 200);
        due.row("a lesser one with 0 together is no circle", solved(row(1, 1, 1, 1), row(0, 1, 1), row(2, 3, 1),
                row(3, 2, 0), row(0, 1, 2), row(1, 0, -1)), 1, 1, 2);
        due.row("the second one decides", solved(row(1, 1), row(0, 1, 2), row(1, 0, -2), row(1, 0, 0), row(1, 0, 1)),
                1, 0, 2);
        due.row("a bound, if it is the least", solved(row(1), row(-1, 0, -5), row(0, -1, 1)), 1, 1, 200);
    }

    @Sentence("the EARLIEST of the first one is 0, the EARLIEST and DURATION of the last one are LENGTH")
    void chainFromEndToEnd() {
        due.row("one is both", solved(row(4)), 0, 0);
        due.row("of duration 0", solved(row(0)), 0, 0);
        due.row("the second is both", solved(row(3, 4)), 0, 1);
        due.row("the first one's earliest is 1", solved(row(4), row(-1, 0, 1)), 0);
        due.row("one that ends ahead is not the last", solved(row(3, 4, 1), row(0, 2, 2)), 0, 1);
        due.row("one behind the last is no more of it", solved(row(5, 0), row(0, 1, 5)), 0, 0);
    }

    @Sentence("such that the EARLIEST of the next is its own and the GAP")
    void chainWithoutTimeBetween() {
        due.row("just so", solved(row(1, 2), row(0, 1, 3)), 0, 0, 1);
        due.row("one less", solved(row(1, 2, 0), row(0, 1, 2), row(0, 2, 1), row(2, 1, 2)), 0, 0, 2, 1);
        due.row("a gap of 0", solved(row(1, 2), row(-1, 1, 0), row(0, 1, 0)), 0, 1);
        due.row("a negative gap", solved(row(1, 0, 4), row(0, 1, 5), row(1, 2, -1)), 0, 0, 1, 2);
        due.row("the origin is none of it", solved(row(1, 1), row(0, -1, 0), row(-1, 1, 3)), 0);
    }

    @Sentence("of those with the fewest TASKS, if there is one, the FIRST")
    void chainOfTheFewest() {
        due.row("one ahead of two", solved(row(1, 4, 5), row(0, 1, 1)), 0, 2);
        due.row("two ahead of three", solved(row(1, 1, 1, 4), row(0, 1, 1), row(1, 3, 1), row(2, 3, 2)), 0, 2, 3);
        due.row("the first of ones", solved(row(4, 5, 5)), 0, 1);
        due.row("the first of twos", solved(row(1, 1, 4, 4), row(0, 3, 2), row(0, 2, 2), row(1, 2, 2)), 0, 0, 2);
        TightDesk most = fullOfTasks(1);
        int[] tasks = new int[30];
        for (int i = 0; i < 30; i++) {
            tasks[i] = 29 - i;
        }
        for (int t = 0; t < 29; t++) {
            most.constrain(t + 1, t, 1);
        }
        most.solve();
        due.row("30 tasks", most, 0, tasks);
        due.is("row(0, 30)", most.row(0, 30), NONE);
    }

    @Sentence("there is none without TASKS, or if a CONSTRAINT from the ORIGIN alone makes the project so long")
    void noChain() {
        due.row("without tasks", solved(row()), 0);
        due.row("the origin alone", solved(row(4), row(-1, 0, 1)), 0);
        due.row("the origin ahead of two", solved(row(1, 4), row(-1, 0, 1), row(0, 1, 1)), 0);
        due.row("the origin and a task alike", solved(row(1, 4), row(-1, 1, 1), row(0, 1, 1)), 0, 0, 1);
        due.row("the origin and another row alike", solved(row(1, 4), row(-1, 0, 1), row(0, 1, -1)), 0, 1);
        due.row("a gap of 0 from the origin", solved(row(4), row(-1, 0, 0)), 0, 0);
        TightDesk dropped = told(row(4), row(-1, 0, 1));
        dropped.drop(0);
        dropped.solve();
        due.row("a dropped one", dropped, 0, 0);
    }

    @Sentence("RUNNING at a time is a TASK whose EARLIEST is not above it, and with its DURATION is")
    void running() {
        TightDesk desk = solved(row(2), row(-1, 0, 3));
        int[] busy = {0, 0, 0, 1, 1, 0};
        for (int time = 0; time < busy.length; time++) {
            due.is("busy(" + time + ")", desk.busy(time), busy[time]);
        }
        TightDesk none = solved(row(0), row(-1, 0, 3));
        for (int time = 2; time <= 4; time++) {
            due.is("of duration 0: busy(" + time + ")", none.busy(time), 0);
        }
        TightDesk from0 = solved(row(1));
        due.is("at 0", from0.busy(0), 1);
        due.is("ahead of 0", from0.busy(-1), 0);
    }

    @Sentence("WORKERS 0 .. 15 have SKILLS for TASKS")
    void firstAndLastWorker() {
        TightDesk desk = fullOfTasks(1);
        for (int w = 0; w < 16; w++) {
            due.is("worker()", desk.worker(), w);
        }
        due.is("skill(29, 15)", desk.skill(29, 15), true);
        due.is("skill(0, 0)", desk.skill(0, 0), true);
        due.is("skill(1, 15)", desk.skill(1, 15), true);
        due.is("skill(1, 16)", desk.skill(1, 16), false);
        desk.solve();
        due.is("assign(0)", desk.assign(0), 2);
        due.workers("the match", desk, 0, 15, NONE);
        due.is("workerOf(29)", desk.workerOf(29), NONE);
        due.is("cover(1, 15)", desk.cover(1, 15), 1);
        due.is("cover(0, 0)", desk.cover(0, 0), 1);
        due.is("cover(1, 16)", desk.cover(1, 16), NONE);
    }

    @Sentence("pairs of a RUNNING TASK and a WORKER with the SKILL, none in two, as many as can be")
    void pairs() {
        due.workers("no worker", assigned(0, row()), NONE);
        due.workers("no skill", assigned(1, row()), NONE);
        lastWorkers("the last task alone", lastTasks(row(15)), 15);
        due.is("the last task alone: assign(4)", lastTasks(row(15)).assign(4), 1);
        due.workers("two for one worker", assigned(1, row(0), row(0)), 0, NONE);
        due.workers("two workers for one", assigned(2, row(0, 1)), 0);
        due.workers("more pairs go ahead", assigned(2, row(0, 1), row(0)), 1, 0);
        TightDesk later = crew(1, row(0), row(0));
        later.constrain(-1, 0, 1);
        later.solve();
        later.assign(0);
        due.workers("one runs later", later, NONE, 0);
        later.assign(5);
        due.workers("one has ended", later, 0, NONE);
        later.assign(6);
        due.workers("both have ended", later, NONE, NONE);
        int[][] skills = new int[16][];
        for (int t = 0; t < 16; t++) {
            skills[t] = t < 15 ? row(t, t + 1) : row(0);
        }
        TightDesk all = assigned(16, skills);
        due.workers("all give way to the last", all, 1, 2, 3, 4, 5, 6, 7, 8, 9, 10, 11, 12, 13, 14, 15, 0);
        for (int i = 0; i < 16; i++) {
            due.is("all have one: cover(0, " + i + ")", all.cover(0, i), 1);
            due.is("all have one: cover(1, " + i + ")", all.cover(1, i), 0);
        }
    }

    /** 30 tasks that run and 16 workers; one row for each of the last tasks, the others have no skills. */
    private static TightDesk lastTasks(int[]... skills) {
        int[][] all = new int[30][0];
        System.arraycopy(skills, 0, all, 30 - skills.length, skills.length);
        return assigned(16, all);
    }

    private void lastWorkers(String name, TightDesk desk, int... workers) {
        for (int i = 0; i < workers.length; i++) {
            int task = 30 - workers.length + i;
            due.is(name + ": workerOf(" + task + ")", desk.workerOf(task), workers[i]);
        }
    }

    @Sentence("that whose row (of each RUNNING TASK, in order, its WORKER, 16 without one) is the FIRST")
    void sixteenWithoutOne() {
        TightDesk last = crew(16, row(15), row(15));
        last.assign(0);
        due.workers("the last worker ahead of none", last, 15, NONE);
        due.workers("a lesser worker now ahead of one later", assigned(2, row(0, 1), row(0), row(1)), 0, NONE, 1);
        due.workers("none is last", assigned(1, row(), row(0), row(0)), NONE, 0, NONE);
        due.workers("one that can't have the least", assigned(3, row(2), row(1, 2), row(0, 1)), 2, 1, 0);
    }

    @Sentence("that whose row (of each RUNNING TASK, in order, its WORKER, 16 without one) is the FIRST")
    void firstMatch() {
        due.workers("the least for the first", assigned(3, row(0, 1, 2), row(0, 1, 2), row(0, 1)), 0, 2, 1);
        due.workers("the last needs the least", assigned(3, row(0, 1, 2), row(0, 1, 2), row(0)), 1, 2, 0);
        due.workers("the first has two", assigned(3, row(0, 1), row(0, 1, 2), row(0)), 1, 2, 0);
        due.workers("a later one gives way", assigned(4, row(1, 2), row(1, 3), row(0, 1), row(), row(0), row(0, 3)),
                2, 1, 0, NONE, NONE, 3);
        lastWorkers("the last task's least", lastTasks(row(9, 10, 11, 13), row(9, 13, 14), row(11, 13), row(9, 11),
                row(10, 11, 12)), 9, 14, 13, 11, 10);
        lastWorkers("the last worker is the least", lastTasks(row(11, 12), row(11, 13, 15), row(11), row(13, 14),
                row(13, 15), row(15), row(14)), 12, 11, NONE, 13, 15, NONE, 14);
    }

    @Sentence("THE COVER: the RUNNING TASKS that have a WORKER in each row of that many pairs")
    void coverTasks() {
        due.cover("in each row", assigned(1, row(0)), 0, 1);
        due.cover("in this row, not in each", assigned(1, row(0), row(0)), 0, 0, 0);
        due.cover("none has", assigned(1, row(), row()), 0, 0, 0);
        due.cover("passed on, not in each", assigned(2, row(0), row(0, 1), row(1)), 0, 0, 0, 0);
        due.cover("one may turn to another", assigned(3, row(0, 2), row(0, 1), row(1)), 0, 1, 1, 1);
        TightDesk later = crew(2, row(0), row(1));
        later.constrain(-1, 0, 9);
        later.solve();
        later.assign(0);
        due.cover("one that does not run", later, 0, 0, 1);
    }

    @Sentence("and the WORKERS with a SKILL for a RUNNING TASK that has not")
    void coverWorkers() {
        due.cover("each has one", assigned(2, row(0, 1)), 1, 0, 0);
        due.cover("one has not", assigned(2, row(0), row(0)), 1, 1, 0);
        due.cover("passed on", assigned(2, row(0), row(0, 1), row(1)), 1, 1, 1);
        due.cover("no skill", assigned(1, row()), 1, 0);
        TightDesk later = crew(2, row(0), row(0), row(1));
        later.constrain(-1, 0, 9);
        later.constrain(-1, 1, 9);
        later.solve();
        later.assign(0);
        due.cover("for those that do not run", later, 1, 0, 0);
        later.assign(9);
        due.cover("for those that run", later, 1, 1, 0);
    }
}
