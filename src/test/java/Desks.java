/** What tests that extend it make desks with, in few words. */
abstract class Desks {
    static final int NONE = TightDesk.NONE;
    static final int STALE = TightDesk.STALE;
    static final int LEAST = Integer.MIN_VALUE;
    static final int MOST = Integer.MAX_VALUE;

    static int[] row(int... numbers) {
        return numbers;
    }

    static TightDesk desk(int... durations) {
        TightDesk desk = new TightDesk();
        for (int duration : durations) {
            desk.task(duration);
        }
        return desk;
    }

    /** As many tasks as there may be, all of one duration. */
    static TightDesk fullOfTasks(int duration) {
        TightDesk desk = new TightDesk();
        for (int t = 0; t < 30; t++) {
            desk.task(duration);
        }
        return desk;
    }

    /** One row for each constraint: from, to, gap. */
    static TightDesk told(int[] durations, int[]... constraints) {
        TightDesk desk = desk(durations);
        for (int[] c : constraints) {
            desk.constrain(c[0], c[1], c[2]);
        }
        return desk;
    }

    static TightDesk solved(int[] durations, int[]... constraints) {
        TightDesk desk = told(durations, constraints);
        desk.solve();
        return desk;
    }

    /** One task and one constraint, that can't be kept. */
    static TightDesk withCircle() {
        return solved(row(1), row(0, 0, 1));
    }

    /** Solved; tasks of duration 5, all at 0; one row for each task: the workers with the skill for it. */
    static TightDesk crew(int workers, int[]... skills) {
        TightDesk desk = new TightDesk();
        for (int w = 0; w < workers; w++) {
            desk.worker();
        }
        for (int t = 0; t < skills.length; t++) {
            desk.task(5);
            for (int w : skills[t]) {
                desk.skill(t, w);
            }
        }
        desk.solve();
        return desk;
    }

    /** The crew with a match at 0. */
    static TightDesk assigned(int workers, int[]... skills) {
        TightDesk desk = crew(workers, skills);
        desk.assign(0);
        return desk;
    }
}
