import java.util.Arrays;

/**
 * A planning desk for small projects: tasks with durations, gaps between their starts, workers with
 * skills. The words used here (earliest, latest, circle, chain, match, cover ..) are the document's.
 */
public final class TightDesk {
    public static final int NONE = -1;
    public static final int STALE = -2;

    private static final int NO_STARTS = -3;
    private static final int TASKS = 30;
    private static final int CONSTRAINTS = 120;
    private static final int WORKERS = 16;
    private static final int EVERY_WORKER = (1 << WORKERS) - 1;
    /** The greatest duration, gap and delay that may be told. */
    private static final int GREATEST = 1000;
    /** The number of task 0's bound. */
    private static final int FIRST_BOUND = 200;
    private static final int TOLD_ORIGIN = -1;
    /** The origin's place in rows that have a place for each task and one for the origin. */
    private static final int ORIGIN = TASKS;
    private static final int PLACES = TASKS + 1;
    /** Far below all that gaps can add up to, so that it stays below 0 whatever is added. */
    private static final int NO_WAY = -1000000;

    private static final int NOT_SOLVED = NONE;
    private static final int HAS_STARTS = 0;
    private static final int HAS_CIRCLE = 1;

    private final Network network;
    private final Crew crew;
    private final Times times;
    /** What solve() would find now: apart from the kept times, for check() and delay(). */
    private final Times present;
    private final Chain chain;
    private final Circle circle;
    private final Match match;
    private int outcome;
    private boolean planFresh;

    public TightDesk() {
        network = new Network();
        crew = new Crew();
        times = new Times(network);
        present = new Times(network);
        chain = new Chain(network, times);
        circle = new Circle(network);
        match = new Match(crew.skills);
        outcome = NOT_SOLVED;
        planFresh = false;
    }

    public int task(int duration) {
        int number = network.addTask(duration);
        if (number != NONE) {
            spoilPlan();
        }
        return number;
    }

    public int constrain(int a, int b, int gap) {
        int number = network.addConstraint(a, b, gap);
        if (number != NONE) {
            spoilPlan();
        }
        return number;
    }

    public boolean drop(int c) {
        boolean done = network.dropConstraint(c);
        if (done) {
            spoilPlan();
        }
        return done;
    }

    public int worker() {
        int number = crew.addWorker();
        if (number != NONE) {
            match.fresh = false;
        }
        return number;
    }

    public boolean skill(int task, int worker) {
        boolean done = network.hasTask(task) && crew.addSkill(task, worker);
        if (done) {
            match.fresh = false;
        }
        return done;
    }

    public int solve() {
        match.fresh = false;
        planFresh = true;
        chain.size = 0;
        circle.size = 0;
        if (times.find()) {
            outcome = HAS_STARTS;
            chain.find();
        } else {
            outcome = HAS_CIRCLE;
            circle.find();
        }
        return outcome;
    }

    public int start(int task, int what) {
        if (!network.hasTask(task) || what < 0 || what > 3) {
            return NONE;
        }
        if (!timesFresh()) {
            return STALE;
        }
        switch (what) {
            case 0:
                return times.earliest[task];
            case 1:
                return times.latest[task];
            case 2:
                return times.latest[task] - times.earliest[task];
            default:
                return times.freeOf(task);
        }
    }

    public int length() {
        return timesFresh() ? times.projectLength : STALE;
    }

    public int row(int what, int i) {
        if (!planFresh) {
            return NONE;
        }
        if (what == 0) {
            return chain.at(i);
        }
        return what == 1 ? circle.at(i) : NONE;
    }

    public int delay(int task, int by) {
        if (!network.hasTask(task) || by < 0 || by > GREATEST) {
            return NONE;
        }
        if (!timesFresh()) {
            return STALE;
        }
        return present.findDelayed(times, task, by) ? present.projectLength : NO_STARTS;
    }

    public int busy(int time) {
        return timesFresh() ? Integer.bitCount(times.runningAt(time)) : STALE;
    }

    public int peak(int what) {
        if (what != 0 && what != 1) {
            return NONE;
        }
        if (!timesFresh()) {
            return STALE;
        }
        int time = times.peakTime();
        return what == 0 ? time : Integer.bitCount(times.runningAt(time));
    }

    public int assign(int time) {
        if (!timesFresh()) {
            return STALE;
        }
        return match.find(time, times.runningAt(time));
    }

    public int workerOf(int task) {
        if (!match.fresh) {
            return STALE;
        }
        return network.hasTask(task) ? match.workerOfTask[task] : NONE;
    }

    public int cover(int side, int id) {
        if (!match.fresh) {
            return STALE;
        }
        if (side == 0 && network.hasTask(id)) {
            return match.coverTasks >> id & 1;
        }
        if (side == 1 && crew.hasWorker(id)) {
            return match.coverWorkers >> id & 1;
        }
        return NONE;
    }

    public int check(int what) {
        if (what == 0 && outcome == HAS_STARTS) {
            return asNumber(present.find() && present.sameAs(times));
        }
        if (what == 1 && outcome == HAS_CIRCLE) {
            return asNumber(circle.stands());
        }
        if (what == 2 && match.kept) {
            return asNumber(present.find() && match.holds(present.runningAt(match.time)));
        }
        return NONE;
    }

    public int count(int what) {
        switch (what) {
            case 0:
                return network.tasks;
            case 1:
                return network.constraints;
            case 2:
                return network.drops;
            case 3:
                return crew.workers;
            case 4:
                return crew.skillsTold;
            case 5:
                return outcome;
            case 6:
                return asNumber(!planFresh);
            case 7:
                return planFresh ? chain.size : 0;
            case 8:
                return planFresh ? circle.size : 0;
            case 9:
                return match.fresh ? match.coverSize() : 0;
            default:
                return NONE;
        }
    }

    private void spoilPlan() {
        planFresh = false;
        match.fresh = false;
    }

    private boolean timesFresh() {
        return planFresh && outcome == HAS_STARTS;
    }

    private static int asNumber(boolean is) {
        return is ? 1 : 0;
    }

    private static boolean holdsBit(int mask, int bit) {
        return (mask >> bit & 1) != 0;
    }

    /** The tasks, and the constraints between their places. */
    private static final class Network {
        int tasks;
        int constraints;
        int drops;
        final int[] duration = new int[TASKS];
        final int[] from = new int[CONSTRAINTS];
        final int[] to = new int[CONSTRAINTS];
        final int[] gap = new int[CONSTRAINTS];
        final boolean[] dropped = new boolean[CONSTRAINTS];

        boolean hasTask(int task) {
            return task >= 0 && task < tasks;
        }

        int addTask(int newDuration) {
            if (tasks >= TASKS || newDuration < 0 || newDuration > GREATEST) {
                return NONE;
            }
            duration[tasks] = newDuration;
            tasks++;
            return tasks - 1;
        }

        int addConstraint(int a, int b, int newGap) {
            boolean ends = hasEnd(a) && hasEnd(b) && (a != TOLD_ORIGIN || b != TOLD_ORIGIN);
            if (constraints >= CONSTRAINTS || !ends || newGap < -GREATEST || newGap > GREATEST) {
                return NONE;
            }
            from[constraints] = placeOf(a);
            to[constraints] = placeOf(b);
            gap[constraints] = newGap;
            constraints++;
            return constraints - 1;
        }

        boolean dropConstraint(int c) {
            if (c < 0 || c >= constraints || dropped[c]) {
                return false;
            }
            dropped[c] = true;
            drops++;
            return true;
        }

        /** Raises the starts as little as keeps all constraints; false if that can't be. */
        boolean raiseAll(int[] starts) {
            // Without a circle each start stands after as many rounds as there are places.
            for (int round = 0; round <= PLACES; round++) {
                if (!raiseOnce(starts)) {
                    return true;
                }
                if (starts[ORIGIN] > 0) {
                    return false;
                }
            }
            return false;
        }

        private boolean raiseOnce(int[] starts) {
            boolean raised = false;
            for (int c = 0; c < constraints; c++) {
                int least = starts[from[c]] + gap[c];
                if (!dropped[c] && starts[to[c]] < least) {
                    starts[to[c]] = least;
                    raised = true;
                }
            }
            return raised;
        }

        /** Lowers the starts as little as keeps all constraints; there must be starts below these. */
        void lowerAll(int[] starts) {
            boolean lowered = true;
            for (int round = 0; round <= PLACES && lowered; round++) {
                lowered = lowerOnce(starts);
            }
        }

        private boolean lowerOnce(int[] starts) {
            boolean lowered = false;
            for (int c = 0; c < constraints; c++) {
                int most = starts[to[c]] - gap[c];
                if (!dropped[c] && starts[from[c]] > most) {
                    starts[from[c]] = most;
                    lowered = true;
                }
            }
            return lowered;
        }

        private boolean hasEnd(int told) {
            return told == TOLD_ORIGIN || hasTask(told);
        }

        private static int placeOf(int told) {
            return told == TOLD_ORIGIN ? ORIGIN : told;
        }
    }

    /** Earliest, latest and length, as they were when they were found. */
    private static final class Times {
        private final Network network;
        private int tasks;
        int projectLength;
        final int[] earliest = new int[PLACES];
        final int[] latest = new int[PLACES];

        Times(Network network) {
            this.network = network;
        }

        /** False if there are no starts. */
        boolean find() {
            // All bounds are kept from the beginning, as no start is ever lowered.
            Arrays.fill(earliest, 0);
            if (!findFromEarliest()) {
                return false;
            }
            for (int t = 0; t < tasks; t++) {
                latest[t] = projectLength - network.duration[t];
            }
            latest[ORIGIN] = 0;
            network.lowerAll(latest);
            return true;
        }

        /** The earliest and the length alone, with one task later than it is by the other times. */
        boolean findDelayed(Times other, int task, int by) {
            System.arraycopy(other.earliest, 0, earliest, 0, PLACES);
            earliest[task] += by;
            return findFromEarliest();
        }

        private boolean findFromEarliest() {
            tasks = network.tasks;
            projectLength = 0;
            if (!network.raiseAll(earliest)) {
                return false;
            }
            for (int t = 0; t < tasks; t++) {
                projectLength = Math.max(projectLength, earliest[t] + network.duration[t]);
            }
            return true;
        }

        boolean sameAs(Times other) {
            if (tasks != other.tasks || projectLength != other.projectLength) {
                return false;
            }
            for (int t = 0; t < tasks; t++) {
                if (earliest[t] != other.earliest[t] || latest[t] != other.latest[t]) {
                    return false;
                }
            }
            return true;
        }

        int freeOf(int task) {
            int free = projectLength - earliest[task] - network.duration[task];
            for (int c = 0; c < network.constraints; c++) {
                int end = network.to[c];
                if (!network.dropped[c] && network.from[c] == task && end != task) {
                    free = Math.min(free, earliest[end] - earliest[task] - network.gap[c]);
                }
            }
            return free;
        }

        /** A bit for each running task. */
        int runningAt(int time) {
            int running = 0;
            for (int t = 0; t < tasks; t++) {
                if (earliest[t] <= time && earliest[t] + network.duration[t] > time) {
                    running |= 1 << t;
                }
            }
            return running;
        }

        int peakTime() {
            int most = 0;
            int time = 0;
            // More tasks run than just before only where one starts.
            for (int t = 0; t < tasks; t++) {
                int running = Integer.bitCount(runningAt(earliest[t]));
                if (running > most || running == most && earliest[t] < time) {
                    most = running;
                    time = earliest[t];
                }
            }
            return time;
        }
    }

    /** The chain: tasks that make the project so long. */
    private static final class Chain {
        private static final int TOO_MANY = TASKS + 1;

        private final Network network;
        private final Times times;
        private final int[] tasks = new int[TASKS];
        /** How many tasks the shortest row from a task to the project's end has. */
        private final int[] toEnd = new int[TASKS];
        int size;

        Chain(Network network, Times times) {
            this.network = network;
            this.times = times;
        }

        int at(int i) {
            return i >= 0 && i < size ? tasks[i] : NONE;
        }

        void find() {
            measure();
            int next = firstTask();
            for (int i = 0; i < TASKS && next != NONE; i++) {
                tasks[i] = next;
                size = i + 1;
                next = nextTask(next);
            }
        }

        private void measure() {
            for (int t = 0; t < network.tasks; t++) {
                boolean last = times.earliest[t] + network.duration[t] == times.projectLength;
                toEnd[t] = last ? 1 : TOO_MANY;
            }
            boolean shorter = true;
            for (int round = 0; round < TASKS && shorter; round++) {
                shorter = shortenOnce();
            }
        }

        private boolean shortenOnce() {
            boolean shorter = false;
            for (int c = 0; c < network.constraints; c++) {
                if (isTight(c) && toEnd[network.from[c]] > toEnd[network.to[c]] + 1) {
                    toEnd[network.from[c]] = toEnd[network.to[c]] + 1;
                    shorter = true;
                }
            }
            return shorter;
        }

        private int firstTask() {
            int first = NONE;
            int fewest = TOO_MANY;
            for (int t = 0; t < network.tasks; t++) {
                if (times.earliest[t] == 0 && toEnd[t] < fewest) {
                    first = t;
                    fewest = toEnd[t];
                }
            }
            return first;
        }

        private int nextTask(int task) {
            int next = NONE;
            for (int c = 0; c < network.constraints; c++) {
                if (network.from[c] == task && isTight(c)) {
                    int end = network.to[c];
                    boolean shortest = toEnd[end] == toEnd[task] - 1;
                    next = shortest && (next == NONE || end < next) ? end : next;
                }
            }
            return next;
        }

        /** Whether a constraint between tasks leaves no time between their earliest. */
        private boolean isTight(int c) {
            int a = network.from[c];
            int b = network.to[c];
            return !network.dropped[c] && a != ORIGIN && b != ORIGIN
                    && times.earliest[b] == times.earliest[a] + network.gap[c];
        }
    }

    /** The circle: bounds and constraints that can't be kept together. */
    private static final class Circle {
        private final Network network;
        private final int[] numbers = new int[PLACES];
        int size;
        /** All bounds and constraints that count, in the order of their numbers. */
        private int edges;
        private final int[] number = new int[CONSTRAINTS + TASKS];
        private final int[] from = new int[CONSTRAINTS + TASKS];
        private final int[] to = new int[CONSTRAINTS + TASKS];
        private final int[] gap = new int[CONSTRAINTS + TASKS];
        private int goal;
        private int fewest;
        /** For each count of edges and each place: what so many edges from it to the goal add at most. */
        private final int[][] most = new int[PLACES + 1][PLACES];

        Circle(Network network) {
            this.network = network;
        }

        int at(int i) {
            return i >= 0 && i < size ? numbers[i] : NONE;
        }

        /** Whether none of its constraints is dropped by now. */
        boolean stands() {
            for (int i = 0; i < size; i++) {
                if (numbers[i] < CONSTRAINTS && network.dropped[numbers[i]]) {
                    return false;
                }
            }
            return true;
        }

        /**
         * A closed row with the fewest edges above 0 never passes a place twice: one of the two closed
         * rows that it would fall into were above 0, with fewer edges. So places need not be marked.
         */
        void find() {
            gatherEdges();
            goal = NONE;
            // Most circles are short, and a low limit spares the long rows from all other places.
            for (int limit = 2; goal == NONE && limit < 2 * PLACES; limit *= 2) {
                findGoal(Math.min(limit, PLACES));
            }
            if (goal != NONE) {
                measure(goal, fewest);
                trace();
            }
        }

        /** The place from which the circle begins, if it has no more edges than the limit. */
        private void findGoal(int limit) {
            int firstEdge = edges;
            fewest = limit;
            for (int i = 0; i <= network.tasks; i++) {
                int place = i < network.tasks ? i : ORIGIN;
                int steps = measure(place, fewest);
                int edge = steps <= fewest ? leastEdge(place, steps - 1, 0) : NONE;
                if (edge != NONE && (steps < fewest || edge < firstEdge)) {
                    goal = place;
                    fewest = steps;
                    firstEdge = edge;
                }
            }
        }

        private void gatherEdges() {
            edges = 0;
            for (int c = 0; c < network.constraints; c++) {
                if (!network.dropped[c]) {
                    addEdge(c, network.from[c], network.to[c], network.gap[c]);
                }
            }
            for (int t = 0; t < network.tasks; t++) {
                addEdge(FIRST_BOUND + t, ORIGIN, t, 0);
            }
        }

        private void addEdge(int itsNumber, int itsFrom, int itsTo, int itsGap) {
            number[edges] = itsNumber;
            from[edges] = itsFrom;
            to[edges] = itsTo;
            gap[edges] = itsGap;
            edges++;
        }

        /** The fewest edges from a place back to it that add up to more than 0; limit + 1 if above limit. */
        private int measure(int place, int limit) {
            Arrays.fill(most[0], NO_WAY);
            most[0][place] = 0;
            for (int steps = 1; steps <= limit && steps <= PLACES; steps++) {
                addStep(most[steps - 1], most[steps]);
                if (most[steps][place] > 0) {
                    return steps;
                }
            }
            return limit + 1;
        }

        private void addStep(int[] before, int[] after) {
            Arrays.fill(after, NO_WAY);
            for (int e = 0; e < edges; e++) {
                after[from[e]] = Math.max(after[from[e]], before[to[e]] + gap[e]);
            }
        }

        /** The least edge from a place, with which and so many more the goal is reached above 0. */
        private int leastEdge(int place, int stepsLeft, int sum) {
            for (int e = 0; e < edges; e++) {
                if (from[e] == place && sum + gap[e] + most[stepsLeft][to[e]] > 0) {
                    return e;
                }
            }
            return NONE;
        }

        private void trace() {
            int place = goal;
            int sum = 0;
            for (int i = 0; i < fewest; i++) {
                int edge = leastEdge(place, fewest - 1 - i, sum);
                if (edge == NONE) {
                    return;
                }
                numbers[i] = number[edge];
                size = i + 1;
                sum += gap[edge];
                place = to[edge];
            }
        }
    }

    /** The workers, and for which tasks they have the skill. */
    private static final class Crew {
        int workers;
        int skillsTold;
        /** Of each task, a bit for each worker with the skill. */
        final int[] skills = new int[TASKS];

        boolean hasWorker(int worker) {
            return worker >= 0 && worker < workers;
        }

        int addWorker() {
            if (workers >= WORKERS) {
                return NONE;
            }
            workers++;
            return workers - 1;
        }

        /** The task must be there. */
        boolean addSkill(int task, int worker) {
            if (!hasWorker(worker) || holdsBit(skills[task], worker)) {
                return false;
            }
            skills[task] |= 1 << worker;
            skillsTold++;
            return true;
        }
    }

    /** The match and its cover, as they were when they were found. Sets of tasks, workers are bits. */
    private static final class Match {
        boolean kept;
        boolean fresh;
        int time;
        private int running;
        int coverTasks;
        int coverWorkers;
        final int[] workerOfTask = new int[TASKS];
        private final int[] taskOfWorker = new int[WORKERS];
        private final int[] skills;
        /** What the latest search has come to: tasks in their order, workers, and from which task. */
        private int queued;
        private int seen;
        private final int[] queue = new int[TASKS];
        private final int[] finder = new int[WORKERS];

        Match(int[] skills) {
            this.skills = skills;
        }

        /** How many pairs. */
        int find(int atTime, int runningTasks) {
            kept = true;
            fresh = true;
            time = atTime;
            running = runningTasks;
            Arrays.fill(workerOfTask, NONE);
            Arrays.fill(taskOfWorker, NONE);
            int pairs = 0;
            while (pairs <= WORKERS && widen(EVERY_WORKER)) {
                pairs++;
            }
            keepCover();
            int workers = EVERY_WORKER;
            for (int t = 0; t < TASKS; t++) {
                workers = holdsBit(running, t) ? takeLeast(t, workers) : workers;
            }
            return pairs;
        }

        /** Whether the match and the cover are right for the tasks that run now. */
        boolean holds(int runningNow) {
            if (running != runningNow) {
                return false;
            }
            for (int t = 0; t < TASKS; t++) {
                int its = workerOfTask[t];
                boolean lacksSkill = its != NONE && !holdsBit(skills[t], its);
                boolean covered = !holdsBit(running, t) || holdsBit(coverTasks, t)
                        || (skills[t] & ~coverWorkers) == 0;
                if (lacksSkill || !covered) {
                    return false;
                }
            }
            return true;
        }

        int coverSize() {
            return Integer.bitCount(coverTasks) + Integer.bitCount(coverWorkers);
        }

        /**
         * The search that found no way to one more pair came, from the tasks without a worker, to just
         * those tasks that have none in some match, and to all workers with a skill for one of these.
         */
        private void keepCover() {
            coverTasks = running;
            for (int i = 0; i < queued; i++) {
                coverTasks &= ~(1 << queue[i]);
            }
            coverWorkers = seen;
        }

        /** Makes one pair more if these workers may change; no task loses its worker but for another. */
        private boolean widen(int workers) {
            queued = 0;
            seen = 0;
            for (int t = 0; t < TASKS; t++) {
                if (holdsBit(running, t) && workerOfTask[t] == NONE) {
                    enqueue(t);
                }
            }
            for (int i = 0; i < queued && i < TASKS; i++) {
                int idle = seeWorkersOf(queue[i], workers);
                if (idle != NONE) {
                    passWorkersOn(idle);
                    return true;
                }
            }
            return false;
        }

        /** A worker without a task among those that the task sees first, if there is one. */
        private int seeWorkersOf(int task, int workers) {
            int unseen = skills[task] & workers & ~seen;
            seen |= unseen;
            for (int w = 0; w < WORKERS; w++) {
                if (holdsBit(unseen, w)) {
                    finder[w] = task;
                    if (taskOfWorker[w] == NONE) {
                        return w;
                    }
                    enqueue(taskOfWorker[w]);
                }
            }
            return NONE;
        }

        private void enqueue(int task) {
            if (queued < TASKS) {
                queue[queued] = task;
                queued++;
            }
        }

        /** Each task on the way to the idle worker takes the worker that it found. */
        private void passWorkersOn(int idle) {
            int worker = idle;
            for (int i = 0; i < WORKERS && worker != NONE; i++) {
                int task = finder[worker];
                int before = workerOfTask[task];
                pair(task, worker);
                worker = before;
            }
        }

        private void pair(int task, int worker) {
            workerOfTask[task] = worker;
            taskOfWorker[worker] = task;
        }

        /**
         * Gives the task the least of these workers with whom there are still as many pairs; answers the
         * workers that are left for later tasks.
         */
        private int takeLeast(int task, int workers) {
            for (int w = 0; w < WORKERS; w++) {
                int others = workers & ~(1 << w);
                if (holdsBit(skills[task] & workers, w) && take(task, w, others)) {
                    return others;
                }
            }
            return workers;
        }

        /**
         * Pairs the two if the other workers can make up for it; else all is as before. Earlier tasks
         * stay as they are: those with a worker hold none of the others, the rest have no skill of these.
         */
        private boolean take(int task, int worker, int otherWorkers) {
            int oldWorker = workerOfTask[task];
            int oldTask = taskOfWorker[worker];
            if (oldWorker == worker) {
                return true;
            }
            if (oldWorker != NONE) {
                taskOfWorker[oldWorker] = NONE;
            }
            if (oldTask != NONE) {
                workerOfTask[oldTask] = NONE;
            }
            pair(task, worker);
            // One pair is lost, and must be made up for, only if both were in one.
            if (oldWorker == NONE || oldTask == NONE || widen(otherWorkers)) {
                return true;
            }
            pair(task, oldWorker);
            pair(oldTask, worker);
            return false;
        }
    }
}
