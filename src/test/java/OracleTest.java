import java.util.Random;

/**
 * Runs of calls by fixed seeds, each answer held against the slow desk's. Arguments are mostly
 * ordinary, sometimes just beside what is allowed, rarely far off.
 */
public final class OracleTest {
    private static final int CALLS = 512;
    private static final int[] FAR = {Integer.MIN_VALUE, Integer.MAX_VALUE, -1001, 1001, -1000, 1000, 31, 120, 200};

    private final Due due;
    private final String kind;
    private Random random;
    private TightDesk desk;
    private Oracle oracle;
    private StringBuilder told;
    private int mostTasks;
    private int mostWorkers;
    private int mostGap;

    private OracleTest(Due due, String kind) {
        this.due = due;
        this.kind = kind;
    }

    public static void main(String[] args) {
        Due due = new Due("OracleTest");
        new OracleTest(due, "mixed").runs(1500);
        new OracleTest(due, "rings").runs(3000);
        new OracleTest(due, "crowd").runs(2000);
        due.end();
    }

    private void runs(int many) {
        for (int seed = 0; seed < many && due.allRight(); seed++) {
            random = new Random(seed * 31L + kind.length() * 7L + kind.charAt(0));
            desk = new TightDesk();
            oracle = new Oracle();
            told = new StringBuilder();
            switch (kind) {
                case "mixed" -> runMixed(seed);
                case "rings" -> runRings();
                default -> runCrowd(seed);
            }
            if (!due.allRight()) {
                System.out.println(kind + ", seed " + seed + ":" + told);
            }
        }
    }

    /** All calls in any order; what makes a circle is mostly dropped again soon. */
    private void runMixed(int seed) {
        mostTasks = seed % 40 == 0 ? 30 : 1 + random.nextInt(8);
        mostWorkers = 1 + random.nextInt(7);
        mostGap = 1 + random.nextInt(random.nextInt(10) == 0 ? 1000 : 5);
        for (int k = 0; k < CALLS && due.allRight(); k++) {
            callAny();
        }
    }

    /** Many small or negative gaps, so that circles are long; each is broken where it is told to be. */
    private void runRings() {
        mostTasks = 2 + random.nextInt(9);
        mostGap = 1 + random.nextInt(6);
        callTasks(mostTasks);
        int constraints = mostTasks + random.nextInt(2 * mostTasks);
        for (int i = 0; i < constraints; i++) {
            int a = random.nextInt(mostTasks + 1) - 1;
            int b = random.nextInt(3) == 0 ? random.nextInt(mostTasks) : (a + 2) % (mostTasks + 1) - 1;
            callConstrain(a, b, random.nextInt(mostGap + 2) - mostGap * 2 / 3);
        }
        solve();
        for (int i = 0; i < 30 && oracle.count(8) > 0 && due.allRight(); i++) {
            sweep();
            callDrop(oracle.row(1, random.nextInt(oracle.count(8))));
            hold("check(1)", desk.check(1), oracle.check(1));
            solve();
        }
        sweep();
        for (int t = 0; t < mostTasks; t++) {
            callDelay(t, random.nextInt(2 * mostGap + 1));
        }
    }

    /** Many tasks at a time, and all that assign() tells of them. */
    private void runCrowd(int seed) {
        mostTasks = 1 + random.nextInt(seed % 20 == 0 ? 30 : 9);
        mostWorkers = 1 + random.nextInt(seed % 20 == 10 ? 16 : 8);
        mostGap = 2;
        callTasks(mostTasks);
        for (int i = random.nextInt(3); i > 0; i--) {
            callConstrain(random.nextInt(mostTasks), random.nextInt(mostTasks), random.nextInt(3) - 1);
        }
        for (int w = 0; w < mostWorkers; w++) {
            hold("worker()", desk.worker(), oracle.worker());
        }
        int skills = random.nextInt(3 * mostTasks + 1);
        for (int i = 0; i < skills; i++) {
            callSkill(random.nextInt(mostTasks), random.nextInt(mostWorkers));
        }
        for (int i = 0; i < 5; i++) {
            solve();
            callAssign(random.nextInt(4));
            sweep();
            callSkill(random.nextInt(mostTasks), random.nextInt(mostWorkers));
            hold("check(2)", desk.check(2), oracle.check(2));
        }
    }

    /** All that can be read. */
    private void sweep() {
        for (int what = -1; what <= 10; what++) {
            hold("count(" + what + ")", desk.count(what), oracle.count(what));
        }
        hold("length()", desk.length(), oracle.length());
        for (int t = -1; t <= oracle.count(0); t++) {
            for (int what = -1; what <= 4; what++) {
                hold("start(" + t + ", " + what + ")", desk.start(t, what), oracle.start(t, what));
            }
            hold("workerOf(" + t + ")", desk.workerOf(t), oracle.workerOf(t));
            hold("cover(0, " + t + ")", desk.cover(0, t), oracle.cover(0, t));
        }
        for (int w = -1; w <= oracle.count(3); w++) {
            hold("cover(1, " + w + ")", desk.cover(1, w), oracle.cover(1, w));
        }
        askRow(0);
        askRow(1);
        for (int what = -1; what <= 3; what++) {
            hold("peak(" + what + ")", desk.peak(what), oracle.peak(what));
            hold("check(" + what + ")", desk.check(what), oracle.check(what));
        }
    }

    private void callAny() {
        int chance = random.nextInt(100);
        if (chance < 4) {
            callTask(random.nextInt(12) == 0 ? far() : random.nextInt(mostGap + 2));
        } else if (chance < 12) {
            int gap = random.nextInt(20) == 0 ? far() : random.nextInt(2 * mostGap + 1) - mostGap - (mostGap + 1) / 3;
            callConstrain(pick(-1, oracle.count(0) - 1), pick(-1, oracle.count(0) - 1), gap);
        } else if (chance < 17) {
            boolean circle = oracle.count(8) > 0;
            callDrop(circle ? oracle.row(1, random.nextInt(oracle.count(8))) : pick(-1, oracle.count(1)));
        } else if (chance < 20 && oracle.count(3) < mostWorkers) {
            hold("worker()", desk.worker(), oracle.worker());
        } else if (chance < 26) {
            callSkill(pick(-1, oracle.count(0)), pick(-1, oracle.count(3)));
        } else if (chance < 38) {
            solve();
        } else if (chance < 45) {
            callAssign(pick(-1, mostGap * 3));
        } else {
            ask();
        }
    }

    private void ask() {
        int task = pick(-1, oracle.count(0));
        int small = pick(-1, 4);
        switch (random.nextInt(9)) {
            case 0 -> hold("start(" + task + ", " + small + ")", desk.start(task, small), oracle.start(task, small));
            case 1 -> hold("length()", desk.length(), oracle.length());
            case 2 -> askRow(pick(-1, 2));
            case 3 -> callDelay(task, random.nextInt(10) == 0 ? far() : random.nextInt(mostGap * 2 + 1));
            case 4 -> askTimes();
            case 5 -> hold("workerOf(" + task + ")", desk.workerOf(task), oracle.workerOf(task));
            case 6 -> askCover();
            case 7 -> hold("check(" + small + ")", desk.check(small), oracle.check(small));
            default -> {
                int what = pick(-1, 10);
                hold("count(" + what + ")", desk.count(what), oracle.count(what));
            }
        }
    }

    private void callTasks(int many) {
        for (int t = 0; t < many; t++) {
            callTask(random.nextInt(mostGap + 3));
        }
    }

    private void callTask(int duration) {
        if (oracle.count(0) < mostTasks || duration < 0 || duration > 1000) {
            hold("task(" + duration + ")", desk.task(duration), oracle.task(duration));
        }
    }

    private void callConstrain(int a, int b, int gap) {
        hold("constrain(" + a + ", " + b + ", " + gap + ")", desk.constrain(a, b, gap), oracle.constrain(a, b, gap));
    }

    private void callDrop(int c) {
        hold("drop(" + c + ")", desk.drop(c) ? 1 : 0, oracle.drop(c) ? 1 : 0);
    }

    private void callSkill(int task, int worker) {
        hold("skill(" + task + ", " + worker + ")", desk.skill(task, worker) ? 1 : 0, oracle.skill(task, worker) ? 1 : 0);
    }

    private void solve() {
        hold("solve()", desk.solve(), oracle.solve());
    }

    private void callAssign(int time) {
        hold("assign(" + time + ")", desk.assign(time), oracle.assign(time));
    }

    private void callDelay(int task, int by) {
        hold("delay(" + task + ", " + by + ")", desk.delay(task, by), oracle.delay(task, by));
    }

    private void askRow(int what) {
        for (int i = -1; i < 32; i++) {
            hold("row(" + what + ", " + i + ")", desk.row(what, i), oracle.row(what, i));
        }
    }

    private void askTimes() {
        int time = pick(-2, mostGap * 4);
        int what = pick(-1, 2);
        hold("busy(" + time + ")", desk.busy(time), oracle.busy(time));
        hold("peak(" + what + ")", desk.peak(what), oracle.peak(what));
    }

    private void askCover() {
        int side = pick(-1, 2);
        int id = pick(-1, side == 1 ? oracle.count(3) : oracle.count(0));
        hold("cover(" + side + ", " + id + ")", desk.cover(side, id), oracle.cover(side, id));
    }

    private int pick(int least, int most) {
        return random.nextInt(60) == 0 ? far() : least + random.nextInt(Math.max(1, most - least + 1));
    }

    private int far() {
        return FAR[random.nextInt(FAR.length)];
    }

    private void hold(String call, int got, int want) {
        told.append("\n  ").append(call).append(" = ").append(got);
        due.is(call, got, want);
    }
}
