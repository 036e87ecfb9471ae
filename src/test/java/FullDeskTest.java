import java.util.ArrayList;
import java.util.Arrays;
import java.util.Collections;
import java.util.List;
import java.util.Random;

/**
 * Circles and matches of desks near their limits, by fixed seeds: too many for the slow desk's rows one by
 * one, so that they are held against tables of all ways and against matches that are forced pair by pair.
 */
public final class FullDeskTest {
    private static final long NO_WAY = Long.MIN_VALUE / 4;

    /** A bound or a constraint; the last place is the origin's. */
    private record Edge(int number, int from, int to, int gap) { }

    private final Due due;
    private final Random random;
    private final TightDesk desk = new TightDesk();
    private final int tasks;

    private FullDeskTest(Due due, long seed) {
        this.due = due;
        random = new Random(seed);
        tasks = 20 + random.nextInt(11);
    }

    public static void main(String[] args) {
        Due due = new Due("FullDeskTest");
        int longest = 0;
        for (int seed = 0; seed < 700 && due.allRight(); seed++) {
            longest = Math.max(longest, new FullDeskTest(due, seed).holdCircles());
            new FullDeskTest(due, -1 - seed).holdMatch();
        }
        due.is("the longest circle that there can be is among them", longest, 31);
        due.end();
    }

    /** Drops one constraint of each circle until there are starts; answers how long the longest was. */
    private int holdCircles() {
        List<Edge> edges = tellRings();
        int longest = 0;
        for (int[] circle = circleOf(edges); circle.length > 0; circle = circleOf(edges)) {
            due.is("solve()", desk.solve(), 1);
            due.row("circle", desk, 1, circle);
            int dropped = leastOf(circle);
            due.is("drop(" + dropped + ")", desk.drop(dropped), true);
            due.is("check(1)", desk.check(1), 0);
            edges.removeIf(e -> e.number == dropped);
            longest = Math.max(longest, circle.length);
        }
        due.is("solve()", desk.solve(), 0);
        return longest;
    }

    private static int leastOf(int[] numbers) {
        return Arrays.stream(numbers).min().getAsInt();
    }

    /** A ring that is just too tight, told up to three times, among constraints that leave some time. */
    private List<Edge> tellRings() {
        int[] starts = new int[tasks + 1];
        List<Integer> places = new ArrayList<>();
        for (int p = 0; p <= tasks; p++) {
            places.add(p);
            starts[p] = p < tasks ? random.nextInt(400) : 0;
        }
        Collections.shuffle(places, random);
        int size = 2 + random.nextInt(tasks);
        int times = 1 + random.nextInt(3);
        List<int[]> told = new ArrayList<>();
        for (int i = 0; i < size * times; i++) {
            int from = places.get(i % size);
            int to = places.get((i + 1) % size);
            told.add(new int[] {from, to, starts[to] - starts[from] + (i % size == 0 ? 1 + random.nextInt(3) : 0)});
        }
        for (int i = random.nextInt(80); i > 0; i--) {
            int from = random.nextInt(tasks + 1);
            int to = random.nextInt(tasks);
            told.add(new int[] {from, to, starts[to] - starts[from] - random.nextInt(60)});
        }
        Collections.shuffle(told, random);
        return tell(told);
    }

    private List<Edge> tell(List<int[]> told) {
        for (int t = 0; t < tasks; t++) {
            desk.task(random.nextInt(1001));
        }
        List<Edge> edges = new ArrayList<>();
        for (int c = 0; c < told.size() && c < 120; c++) {
            int[] it = told.get(c);
            desk.constrain(it[0] == tasks ? -1 : it[0], it[1] == tasks ? -1 : it[1], it[2]);
            edges.add(new Edge(c, it[0], it[1], it[2]));
        }
        for (int t = 0; t < tasks; t++) {
            edges.add(new Edge(200 + t, tasks, t, 0));
        }
        return edges;
    }

    /** The circle; an empty row if there is none. */
    private int[] circleOf(List<Edge> edges) {
        int places = tasks + 1;
        List<long[][]> ways = new ArrayList<>();
        ways.add(table(places));
        for (int p = 0; p < places; p++) {
            ways.get(0)[p][p] = 0;
        }
        for (int size = 1; size <= places; size++) {
            ways.add(oneLonger(ways.get(size - 1), edges));
            for (int p = 0; p < places; p++) {
                if (ways.get(size)[p][p] > 0) {
                    return firstRow(ways, edges, size);
                }
            }
        }
        return new int[0];
    }

    private static long[][] table(int places) {
        long[][] table = new long[places][places];
        for (long[] row : table) {
            Arrays.fill(row, NO_WAY);
        }
        return table;
    }

    private static long[][] oneLonger(long[][] ways, List<Edge> edges) {
        long[][] longer = table(ways.length);
        for (Edge e : edges) {
            for (int p = 0; p < ways.length; p++) {
                if (ways[p][e.from] != NO_WAY) {
                    longer[p][e.to] = Math.max(longer[p][e.to], ways[p][e.from] + e.gap);
                }
            }
        }
        return longer;
    }

    private static int[] firstRow(List<long[][]> ways, List<Edge> edges, int size) {
        List<Edge> row = new ArrayList<>();
        long sum = 0;
        for (int left = size - 1; left >= 0; left--) {
            for (Edge e : edges) {
                Edge first = row.isEmpty() ? e : row.get(0);
                boolean goesOn = row.isEmpty() || row.get(row.size() - 1).to == e.from;
                if (goesOn && row.size() + left < size && sum + e.gap + ways.get(left)[e.to][first.from] > 0) {
                    row.add(e);
                    sum += e.gap;
                }
            }
        }
        return row.stream().mapToInt(Edge::number).toArray();
    }

    /** All tasks start at 0; those that run at the time have their skills in the row, the others none. */
    private void holdMatch() {
        int time = random.nextInt(4);
        int workers = 8 + random.nextInt(9);
        int[] skills = tellCrew(time, workers);
        desk.solve();
        int pairs = mostPairs(skills);
        due.is("assign(" + time + ")", desk.assign(time), pairs);
        holdCover(skills, workers, pairs);
        for (int t = 0; t < tasks; t++) {
            int worker = leastWorker(skills, t, pairs);
            due.is("workerOf(" + t + ")", desk.workerOf(t), worker);
            force(skills, t, worker);
        }
        due.is("check(2)", desk.check(2), 1);
    }

    private int[] tellCrew(int time, int workers) {
        int[] skills = new int[tasks];
        int[] durations = new int[tasks];
        for (int t = 0; t < tasks; t++) {
            durations[t] = random.nextInt(8);
            desk.task(durations[t]);
        }
        for (int w = 0; w < workers; w++) {
            desk.worker();
        }
        int wanted = random.nextBoolean() ? workers : 1 + workers / 2;
        for (int i = random.nextInt(120); i > 0; i--) {
            int t = random.nextInt(tasks);
            int w = random.nextInt(wanted);
            desk.skill(t, w);
            skills[t] |= durations[t] > time ? 1 << w : 0;
        }
        return skills;
    }

    private void holdCover(int[] skills, int workers, int pairs) {
        int coverWorkers = 0;
        for (int t = 0; t < tasks; t++) {
            int[] others = skills.clone();
            others[t] = 0;
            boolean in = mostPairs(others) < pairs;
            due.is("cover(0, " + t + ")", desk.cover(0, t), in ? 1 : 0);
            coverWorkers |= in ? 0 : skills[t];
        }
        for (int w = 0; w < workers; w++) {
            due.is("cover(1, " + w + ")", desk.cover(1, w), coverWorkers >> w & 1);
        }
        due.is("as many in the cover as pairs", desk.count(9), pairs);
    }

    private static int leastWorker(int[] skills, int task, int pairs) {
        for (int w = 0; w < 16; w++) {
            int[] forced = skills.clone();
            force(forced, task, w);
            if ((skills[task] >> w & 1) == 1 && mostPairs(forced) == pairs) {
                return w;
            }
        }
        return TightDesk.NONE;
    }

    /** From here on the task has this worker, or none, and no other task has that one. */
    private static void force(int[] skills, int task, int worker) {
        for (int t = 0; t < skills.length && worker != TightDesk.NONE; t++) {
            skills[t] &= ~(1 << worker);
        }
        skills[task] = worker == TightDesk.NONE ? 0 : 1 << worker;
    }

    private static int mostPairs(int[] skills) {
        int[] taskOf = new int[16];
        Arrays.fill(taskOf, -1);
        int pairs = 0;
        for (int t = 0; t < skills.length; t++) {
            pairs += findWorker(t, skills, taskOf, new boolean[16]) ? 1 : 0;
        }
        return pairs;
    }

    private static boolean findWorker(int task, int[] skills, int[] taskOf, boolean[] asked) {
        for (int w = 0; w < 16; w++) {
            if ((skills[task] >> w & 1) == 1 && !asked[w]) {
                asked[w] = true;
                if (taskOf[w] < 0 || findWorker(taskOf[w], skills, taskOf, asked)) {
                    taskOf[w] = task;
                    return true;
                }
            }
        }
        return false;
    }
}
