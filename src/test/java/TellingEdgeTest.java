import java.lang.reflect.InvocationTargetException;

/** The boundary cases of promises 1 to 6: what may be told, and what is refused. */
public final class TellingEdgeTest extends Edges {
    public static void main(String[] args) throws IllegalAccessException, InvocationTargetException {
        new TellingEdgeTest().holdEachSentence();
    }

    @Sentence("`TightDesk()`: Nothing is told.")
    void promise1NothingIsTold() {
        TightDesk desk = new TightDesk();
        for (int what = 0; what <= 4; what++) {
            due.is("count(" + what + ")", desk.count(what), 0);
        }
        due.is("drop(0)", desk.drop(0), false);
        due.is("skill(0, 0)", desk.skill(0, 0), false);
        due.is("constrain(-1, 0, 0)", desk.constrain(-1, 0, 0), NONE);
        due.is("start(0, 0)", desk.start(0, 0), NONE);
        due.is("the first task", desk.task(0), 0);
        due.is("the first worker", desk.worker(), 0);
        due.is("the first constraint", desk.constrain(-1, 0, 0), 0);
    }

    @Sentence("`TightDesk()`: Nothing is told.")
    void promise1NoAnswers() {
        TightDesk desk = new TightDesk();
        due.is("length()", desk.length(), STALE);
        due.is("busy(0)", desk.busy(0), STALE);
        due.is("peak(0)", desk.peak(0), STALE);
        due.is("peak(1)", desk.peak(1), STALE);
        due.is("assign(0)", desk.assign(0), STALE);
        due.is("workerOf(0)", desk.workerOf(0), STALE);
        due.is("cover(0, 0)", desk.cover(0, 0), STALE);
        due.is("row(0, 0)", desk.row(0, 0), NONE);
        due.is("row(1, 0)", desk.row(1, 0), NONE);
        for (int what = 0; what <= 2; what++) {
            due.is("check(" + what + ")", desk.check(what), NONE);
        }
        due.is("count(5)", desk.count(5), NONE);
        due.is("count(6)", desk.count(6), 1);
        for (int what = 7; what <= 9; what++) {
            due.is("count(" + what + ")", desk.count(what), 0);
        }
    }

    @Sentence("`TightDesk()`: Nothing is told.")
    void promise1NothingFromAnotherDesk() {
        TightDesk full = assigned(2, row(0), row(1));
        full.constrain(0, 0, 1);
        full.solve();
        TightDesk desk = new TightDesk();
        for (int what = 0; what <= 4; what++) {
            due.is("count(" + what + ")", desk.count(what), 0);
        }
        due.is("count(5)", desk.count(5), NONE);
        due.is("solve()", desk.solve(), 0);
        due.is("the other's circle stays", full.row(1, 0), 0);
    }

    @Sentence("One more TASK: its number.")
    void promise2Numbers() {
        TightDesk desk = new TightDesk();
        for (int t = 0; t < 30; t++) {
            due.is("task", desk.task(t), t);
            due.is("count(0)", desk.count(0), t + 1);
            due.is("a refused one takes no number", desk.task(-1), NONE);
        }
    }

    @Sentence("NONE: there are 30")
    void promise2ThereAre30() {
        TightDesk desk = fullOfTasks(5);
        for (int duration : row(0, 1, 1000, -1, 1001)) {
            due.is("task(" + duration + ")", desk.task(duration), NONE);
        }
        due.is("count(0)", desk.count(0), 30);
        desk.solve();
        due.is("none is another's duration: length()", desk.length(), 5);
        due.is("busy(4)", desk.busy(4), 30);
    }

    @Sentence("NONE: .. the DURATION is not 0 .. 1000")
    void promise2Durations() {
        for (int wrong : row(-1, -2, -1000, LEAST, 1001, 1002, 2000, MOST)) {
            TightDesk desk = new TightDesk();
            due.is("task(" + wrong + ")", desk.task(wrong), NONE);
            due.is("count(0) after task(" + wrong + ")", desk.count(0), 0);
        }
        for (int right : row(0, 1, 999, 1000)) {
            TightDesk desk = new TightDesk();
            due.is("task(" + right + ")", desk.task(right), 0);
            desk.solve();
            due.is("length() with task(" + right + ")", desk.length(), right);
        }
    }

    @Sentence("One more CONSTRAINT: its number.")
    void promise3Numbers() {
        TightDesk desk = desk(1, 1);
        for (int c = 0; c < 120; c++) {
            due.is("constrain", desk.constrain(0, 1, 0), c);
            due.is("count(1)", desk.count(1), c + 1);
            due.is("a refused one takes no number", desk.constrain(-1, -1, 0), NONE);
        }
    }

    @Sentence("NONE: there were 120")
    void promise3ThereWere120() {
        TightDesk desk = desk(1, 1);
        for (int c = 0; c < 120; c++) {
            desk.constrain(0, 1, 4);
        }
        due.is("the 121st", desk.constrain(0, 1, 9), NONE);
        for (int c = 0; c < 120; c++) {
            due.is("drop(" + c + ")", desk.drop(c), true);
            due.is("dropped ones were there, too", desk.constrain(0, 1, 9), NONE);
        }
        due.is("count(1)", desk.count(1), 120);
        due.is("count(2)", desk.count(2), 120);
        desk.solve();
        due.is("length()", desk.length(), 1);
    }

    @Sentence("NONE: .. no such TASK")
    void promise3NoSuchTask() {
        TightDesk desk = desk(1, 1);
        for (int wrong : row(2, 29, 30, 31, 200, MOST, -2, -30, LEAST)) {
            due.is("constrain(" + wrong + ", 0, 0)", desk.constrain(wrong, 0, 0), NONE);
            due.is("constrain(0, " + wrong + ", 0)", desk.constrain(0, wrong, 0), NONE);
            due.is("constrain(-1, " + wrong + ", 0)", desk.constrain(-1, wrong, 0), NONE);
            due.is("constrain(" + wrong + ", -1, 0)", desk.constrain(wrong, -1, 0), NONE);
            due.is("constrain(" + wrong + ", " + wrong + ", 0)", desk.constrain(wrong, wrong, 0), NONE);
        }
        due.is("count(1)", desk.count(1), 0);
        due.is("constrain(1, 0, 0)", desk.constrain(1, 0, 0), 0);
        due.is("constrain(0, 1, 0)", desk.constrain(0, 1, 0), 1);
        due.is("constrain(2, 0, 0), not yet", desk.constrain(2, 0, 0), NONE);
        desk.task(1);
        due.is("constrain(2, 0, 0)", desk.constrain(2, 0, 0), 2);
    }

    @Sentence("NONE: .. both are the ORIGIN")
    void promise3BothTheOrigin() {
        TightDesk desk = desk(1);
        for (int gap : row(-1000, -1, 0, 1, 1000)) {
            due.is("constrain(-1, -1, " + gap + ")", desk.constrain(-1, -1, gap), NONE);
        }
        due.is("count(1)", desk.count(1), 0);
        due.is("constrain(-1, 0, 1)", desk.constrain(-1, 0, 1), 0);
        due.is("constrain(0, -1, -1)", desk.constrain(0, -1, -1), 1);
        due.is("constrain(0, 0, 0)", desk.constrain(0, 0, 0), 2);
        due.is("without tasks", new TightDesk().constrain(-1, -1, 0), NONE);
    }

    @Sentence("NONE: .. the GAP is not -1000 .. 1000")
    void promise3Gaps() {
        TightDesk desk = desk(1, 1);
        for (int wrong : row(-1001, -1002, LEAST, 1001, 1002, MOST)) {
            due.is("constrain(0, 1, " + wrong + ")", desk.constrain(0, 1, wrong), NONE);
            due.is("constrain(-1, 1, " + wrong + ")", desk.constrain(-1, 1, wrong), NONE);
            due.is("constrain(1, -1, " + wrong + ")", desk.constrain(1, -1, wrong), NONE);
            due.is("constrain(1, 1, " + wrong + ")", desk.constrain(1, 1, wrong), NONE);
        }
        due.is("count(1)", desk.count(1), 0);
        int number = 0;
        for (int right : row(-1000, -999, 0, 999, 1000)) {
            due.is("constrain(0, 1, " + right + ")", desk.constrain(0, 1, right), number);
            number++;
        }
    }

    @Sentence("A CONSTRAINT is dropped: true")
    void promise4FirstAndLast() {
        TightDesk desk = desk(1, 1);
        for (int c = 0; c < 120; c++) {
            desk.constrain(0, 1, c == 0 ? 8 : c == 119 ? 9 : 0);
        }
        due.is("drop(119)", desk.drop(119), true);
        desk.solve();
        due.is("start(1, 0) without 119", desk.start(1, 0), 8);
        due.is("drop(0)", desk.drop(0), true);
        desk.solve();
        due.is("start(1, 0) without 0", desk.start(1, 0), 0);
        due.is("count(2)", desk.count(2), 2);
    }

    @Sentence("false if there is none such")
    void promise4NoneSuch() {
        TightDesk desk = told(row(1, 1), row(0, 1, 3), row(0, 1, 4));
        for (int wrong : row(2, 3, 119, 120, 121, 200, 201, 229, MOST, -1, -2, LEAST)) {
            due.is("drop(" + wrong + ")", desk.drop(wrong), false);
        }
        due.is("count(2)", desk.count(2), 0);
        desk.constrain(0, 1, 5);
        due.is("drop(2), by now it is there", desk.drop(2), true);
        TightDesk full = desk(1);
        for (int c = 0; c < 120; c++) {
            full.constrain(0, 0, 0);
        }
        due.is("of 120: drop(120)", full.drop(120), false);
        due.is("of 120: drop(200)", full.drop(200), false);
    }

    @Sentence("or it is dropped already")
    void promise4DroppedAlready() {
        TightDesk desk = told(row(1, 1), row(0, 1, 3), row(0, 1, 2));
        due.is("drop(0)", desk.drop(0), true);
        due.is("drop(0) again", desk.drop(0), false);
        due.is("count(2)", desk.count(2), 1);
        desk.solve();
        due.is("drop(0) after solve()", desk.drop(0), false);
        due.is("count(6)", desk.count(6), 0);
        due.is("drop(1)", desk.drop(1), true);
        due.is("drop(0) at last", desk.drop(0), false);
        due.is("count(2) at last", desk.count(2), 2);
    }

    @Sentence("One more WORKER: its number; NONE if there are 16.")
    void promise5ThereAre16() {
        TightDesk desk = new TightDesk();
        for (int w = 0; w < 16; w++) {
            due.is("worker()", desk.worker(), w);
            due.is("count(3)", desk.count(3), w + 1);
        }
        due.is("the 17th", desk.worker(), NONE);
        due.is("the 18th", desk.worker(), NONE);
        due.is("count(3) after these", desk.count(3), 16);
    }

    @Sentence("A WORKER gets the SKILL for a TASK: true")
    void promise6FirstAndLast() {
        TightDesk desk = fullOfTasks(1);
        for (int w = 0; w < 16; w++) {
            desk.worker();
        }
        // Not all 480 of them, as an object is used for 512 calls.
        for (int t = 0; t < 30; t++) {
            for (int w = t % 2; w < 16; w += t < 28 ? 2 : 1) {
                due.is("skill(" + t + ", " + w + ")", desk.skill(t, w), true);
            }
        }
        due.is("count(4)", desk.count(4), 255);
        desk.solve();
        due.is("assign(0)", desk.assign(0), 16);
        due.is("workerOf(29)", desk.workerOf(29), NONE);
    }

    @Sentence("false if one of both is not there")
    void promise6NotThere() {
        TightDesk desk = desk(1, 1);
        desk.worker();
        desk.worker();
        for (int wrong : row(2, 29, 30, 32, 33, MOST, -1, -2, -32, LEAST)) {
            due.is("skill(" + wrong + ", 0)", desk.skill(wrong, 0), false);
            due.is("skill(" + wrong + ", " + wrong + ")", desk.skill(wrong, wrong), false);
        }
        for (int wrong : row(2, 15, 16, 32, 33, MOST, -1, -2, -32, LEAST)) {
            due.is("skill(0, " + wrong + ")", desk.skill(0, wrong), false);
        }
        due.is("count(4)", desk.count(4), 0);
        desk.task(1);
        desk.worker();
        due.is("skill(2, 2), by now both are there", desk.skill(2, 2), true);
    }

    @Sentence("or it has it")
    void promise6HasIt() {
        TightDesk desk = desk(1, 1);
        desk.worker();
        desk.worker();
        due.is("skill(0, 1)", desk.skill(0, 1), true);
        due.is("skill(0, 1) again", desk.skill(0, 1), false);
        due.is("count(4)", desk.count(4), 1);
        due.is("skill(0, 0), another worker", desk.skill(0, 0), true);
        due.is("skill(1, 1), another task", desk.skill(1, 1), true);
        due.is("skill(0, 1) at last", desk.skill(0, 1), false);
        due.is("count(4) at last", desk.count(4), 3);
    }
}
