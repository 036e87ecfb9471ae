import java.util.ArrayList;
import java.util.Arrays;
import java.util.HashMap;
import java.util.List;
import java.util.Map;

/**
 * A second desk, written from the document's words alone, in other ways than the class: it tries
 * rows one by one where the class measures them. Slow, and for tests only.
 */
final class Oracle {
    static final int NONE = -1;
    static final int STALE = -2;
    private static final int ORIGIN = -1;

    /** A bound or a constraint that counts. */
    private record Edge(int number, int from, int to, int gap) { }

    private record Constraint(int a, int b, int gap) { }

    /** What solve() finds; circle is null if there are starts, the rest if there are none. */
    private record Plan(int[] earliest, int[] latest, int length, List<Integer> chain, List<Integer> circle) { }

    private record Found(int time, List<Integer> running, int[] row, boolean[] coverTasks, boolean[] coverWorkers) { }

    private final List<Integer> durations = new ArrayList<>();
    private final List<Constraint> constraints = new ArrayList<>();
    private final List<Integer> droppedOnes = new ArrayList<>();
    private final boolean[][] skills = new boolean[30][16];
    private int workers;
    private Plan plan;
    private boolean planStale;
    private Found found;
    private boolean foundStale;

    int task(int duration) {
        if (durations.size() == 30 || duration < 0 || duration > 1000) {
            return NONE;
        }
        durations.add(duration);
        planStale = true;
        foundStale = true;
        return durations.size() - 1;
    }

    int constrain(int a, int b, int gap) {
        boolean noSuch = a < -1 || b < -1 || a >= durations.size() || b >= durations.size();
        if (constraints.size() == 120 || noSuch || a == -1 && b == -1 || gap < -1000 || gap > 1000) {
            return NONE;
        }
        constraints.add(new Constraint(a, b, gap));
        planStale = true;
        foundStale = true;
        return constraints.size() - 1;
    }

    boolean drop(int c) {
        if (c < 0 || c >= constraints.size() || droppedOnes.contains(c)) {
            return false;
        }
        droppedOnes.add(c);
        planStale = true;
        foundStale = true;
        return true;
    }

    int worker() {
        if (workers == 16) {
            return NONE;
        }
        foundStale = true;
        return workers++;
    }

    boolean skill(int task, int worker) {
        if (task < 0 || task >= durations.size() || worker < 0 || worker >= workers || skills[task][worker]) {
            return false;
        }
        skills[task][worker] = true;
        foundStale = true;
        return true;
    }

    int solve() {
        plan = findPlan(true);
        planStale = false;
        foundStale = true;
        return plan.circle == null ? 0 : 1;
    }

    int start(int task, int what) {
        if (task < 0 || task >= durations.size() || what < 0 || what > 3) {
            return NONE;
        }
        if (noTimes()) {
            return STALE;
        }
        int earliest = plan.earliest[task];
        return switch (what) {
            case 0 -> earliest;
            case 1 -> plan.latest[task];
            case 2 -> plan.latest[task] - earliest;
            default -> free(task);
        };
    }

    int length() {
        return noTimes() ? STALE : plan.length;
    }

    int row(int what, int i) {
        if (plan == null || planStale || what < 0 || what > 1) {
            return NONE;
        }
        List<Integer> numbers = what == 0 ? plan.chain : plan.circle;
        return numbers == null || i < 0 || i >= numbers.size() ? NONE : numbers.get(i);
    }

    int delay(int task, int by) {
        if (task < 0 || task >= durations.size() || by < 0 || by > 1000) {
            return NONE;
        }
        if (noTimes()) {
            return STALE;
        }
        List<Edge> edges = edges();
        edges.add(new Edge(NONE, ORIGIN, task, plan.earliest[task] + by));
        long[][] ways = ways(edges);
        return ways == null ? -3 : lengthOf(earliestOf(ways));
    }

    int busy(int time) {
        return noTimes() ? STALE : running(plan.earliest, time).size();
    }

    int peak(int what) {
        if (what != 0 && what != 1) {
            return NONE;
        }
        if (noTimes()) {
            return STALE;
        }
        int first = 0;
        int most = 0;
        for (int time = 0; time <= plan.length; time++) {
            int now = running(plan.earliest, time).size();
            if (now > most) {
                most = now;
                first = time;
            }
        }
        return what == 0 ? first : most;
    }

    int assign(int time) {
        if (noTimes()) {
            return STALE;
        }
        found = findMatch(time);
        foundStale = false;
        int pairs = 0;
        for (int worker : found.row) {
            pairs += worker == 16 ? 0 : 1;
        }
        return pairs;
    }

    int workerOf(int task) {
        if (found == null || foundStale) {
            return STALE;
        }
        int i = found.running.indexOf(task);
        return i < 0 || found.row[i] == 16 ? NONE : found.row[i];
    }

    int cover(int side, int id) {
        if (found == null || foundStale) {
            return STALE;
        }
        if (side == 0 && id >= 0 && id < durations.size()) {
            return found.coverTasks[id] ? 1 : 0;
        }
        if (side == 1 && id >= 0 && id < workers) {
            return found.coverWorkers[id] ? 1 : 0;
        }
        return NONE;
    }

    int check(int what) {
        return switch (what) {
            case 0 -> plan == null || plan.circle != null ? NONE : checkTimes();
            case 1 -> plan == null || plan.circle == null ? NONE : checkCircle();
            case 2 -> found == null ? NONE : checkMatch();
            default -> NONE;
        };
    }

    int count(int what) {
        boolean planned = plan != null && !planStale;
        return switch (what) {
            case 0 -> durations.size();
            case 1 -> constraints.size();
            case 2 -> droppedOnes.size();
            case 3 -> workers;
            case 4 -> countTrue(skills);
            case 5 -> plan == null ? NONE : plan.circle == null ? 0 : 1;
            case 6 -> planned ? 0 : 1;
            case 7 -> planned && plan.chain != null ? plan.chain.size() : 0;
            case 8 -> planned && plan.circle != null ? plan.circle.size() : 0;
            case 9 -> found == null || foundStale ? 0 : countTrue(found.coverTasks, found.coverWorkers);
            default -> NONE;
        };
    }

    private boolean noTimes() {
        return plan == null || planStale || plan.circle != null;
    }

    private static int countTrue(boolean[]... rows) {
        int count = 0;
        for (boolean[] row : rows) {
            for (boolean is : row) {
                count += is ? 1 : 0;
            }
        }
        return count;
    }

    private List<Edge> edges() {
        List<Edge> edges = new ArrayList<>();
        for (int c = 0; c < constraints.size(); c++) {
            Constraint it = constraints.get(c);
            if (!droppedOnes.contains(c)) {
                edges.add(new Edge(c, it.a, it.b, it.gap));
            }
        }
        for (int t = 0; t < durations.size(); t++) {
            edges.add(new Edge(200 + t, ORIGIN, t, 0));
        }
        return edges;
    }

    /** The most that gaps add up to from each to each (place 0 is the origin), null if one is above 0 from itself to itself. */
    private long[][] ways(List<Edge> edges) {
        int places = durations.size() + 1;
        long none = Long.MIN_VALUE / 4;
        long[][] most = new long[places][places];
        for (int i = 0; i < places; i++) {
            Arrays.fill(most[i], none);
            most[i][i] = 0;
        }
        for (Edge e : edges) {
            most[e.from + 1][e.to + 1] = Math.max(most[e.from + 1][e.to + 1], e.gap);
        }
        for (int k = 0; k < places; k++) {
            for (int i = 0; i < places; i++) {
                for (int j = 0; j < places; j++) {
                    if (most[i][k] != none && most[k][j] != none) {
                        most[i][j] = Math.max(most[i][j], most[i][k] + most[k][j]);
                    }
                }
            }
            for (int i = 0; i < places; i++) {
                if (most[i][i] > 0) {
                    return null;
                }
            }
        }
        return most;
    }

    private int[] earliestOf(long[][] ways) {
        int[] earliest = new int[durations.size()];
        for (int t = 0; t < earliest.length; t++) {
            earliest[t] = (int) ways[0][t + 1];
        }
        return earliest;
    }

    private int lengthOf(int[] earliest) {
        int length = 0;
        for (int t = 0; t < earliest.length; t++) {
            length = Math.max(length, earliest[t] + durations.get(t));
        }
        return length;
    }

    private Plan findPlan(boolean rowsToo) {
        List<Edge> edges = edges();
        long[][] ways = ways(edges);
        if (ways == null) {
            return new Plan(null, null, 0, null, rowsToo ? findCircle(edges) : List.of());
        }
        int[] earliest = earliestOf(ways);
        int length = lengthOf(earliest);
        for (int t = 0; t < earliest.length; t++) {
            edges.add(new Edge(NONE, t, ORIGIN, durations.get(t) - length));
        }
        long[][] back = ways(edges);
        int[] latest = new int[earliest.length];
        for (int t = 0; t < latest.length; t++) {
            latest[t] = (int) -back[t + 1][0];
        }
        return new Plan(earliest, latest, length, rowsToo ? findChain(earliest, length) : null, null);
    }

    private int free(int task) {
        int free = plan.length - plan.earliest[task] - durations.get(task);
        for (Edge e : edges()) {
            if (e.from == task && e.to != task) {
                int end = e.to == ORIGIN ? 0 : plan.earliest[e.to];
                free = Math.min(free, end - plan.earliest[task] - e.gap);
            }
        }
        return free;
    }

    private List<Integer> findChain(int[] earliest, int length) {
        for (int size = 1; size <= earliest.length; size++) {
            for (int t = 0; t < earliest.length; t++) {
                List<Integer> row = new ArrayList<>();
                if (earliest[t] == 0 && chainOn(t, size, earliest, length, row, new HashMap<>())) {
                    return row;
                }
            }
        }
        return List.of();
    }

    private boolean chainOn(int t, int left, int[] earliest, int length, List<Integer> row, Map<Integer, Boolean> failed) {
        if (failed.containsKey(t * 100 + left)) {
            return false;
        }
        row.add(t);
        if (left == 1 && earliest[t] + durations.get(t) == length) {
            return true;
        }
        for (int next = 0; left > 1 && next < earliest.length; next++) {
            if (leads(t, next, earliest[next] - earliest[t]) && chainOn(next, left - 1, earliest, length, row, failed)) {
                return true;
            }
        }
        row.remove(row.size() - 1);
        failed.put(t * 100 + left, true);
        return false;
    }

    private boolean leads(int a, int b, int gap) {
        for (Edge e : edges()) {
            if (e.from == a && e.to == b && e.gap == gap) {
                return true;
            }
        }
        return false;
    }

    private List<Integer> findCircle(List<Edge> edges) {
        for (int size = 1; size <= durations.size() + 1; size++) {
            List<Edge> row = new ArrayList<>();
            if (circleOn(edges, size, row)) {
                List<Integer> numbers = new ArrayList<>();
                for (Edge e : row) {
                    numbers.add(e.number);
                }
                return numbers;
            }
        }
        throw new IllegalStateException("no circle, and no starts");
    }

    /** Tries all rows of so many, the least numbers first, and no place twice. */
    private static boolean circleOn(List<Edge> edges, int size, List<Edge> row) {
        if (row.size() == size) {
            int sum = 0;
            for (Edge e : row) {
                sum += e.gap;
            }
            return sum > 0 && row.get(size - 1).to == row.get(0).from;
        }
        for (Edge e : edges) {
            boolean fits = row.isEmpty() || row.get(row.size() - 1).to == e.from;
            for (int i = 1; i < row.size() && fits; i++) {
                fits = row.get(i).from != e.from;
            }
            fits = fits && (row.isEmpty() || row.get(0).from != e.from);
            if (fits) {
                row.add(e);
                if (circleOn(edges, size, row)) {
                    return true;
                }
                row.remove(row.size() - 1);
            }
        }
        return false;
    }

    private List<Integer> running(int[] earliest, int time) {
        List<Integer> running = new ArrayList<>();
        for (int t = 0; t < earliest.length; t++) {
            if (earliest[t] <= time && (long) earliest[t] + durations.get(t) > time) {
                running.add(t);
            }
        }
        return running;
    }

    /** The most pairs of the tasks from i on with the workers that are not taken. */
    private int mostPairs(List<Integer> tasks, int i, int taken, Map<Integer, Integer> known) {
        if (i == tasks.size()) {
            return 0;
        }
        int key = i << 16 | taken;
        Integer before = known.get(key);
        if (before != null) {
            return before;
        }
        int most = mostPairs(tasks, i + 1, taken, known);
        for (int w = 0; w < workers; w++) {
            if (skills[tasks.get(i)][w] && (taken >> w & 1) == 0) {
                most = Math.max(most, 1 + mostPairs(tasks, i + 1, taken | 1 << w, known));
            }
        }
        known.put(key, most);
        return most;
    }

    private Found findMatch(int time) {
        List<Integer> running = running(plan.earliest, time);
        Map<Integer, Integer> known = new HashMap<>();
        int all = mostPairs(running, 0, 0, known);
        int[] row = new int[running.size()];
        int taken = 0;
        int left = all;
        for (int i = 0; i < row.length; i++) {
            row[i] = 16;
            for (int w = workers - 1; w >= 0; w--) {
                boolean able = skills[running.get(i)][w] && (taken >> w & 1) == 0;
                if (able && 1 + mostPairs(running, i + 1, taken | 1 << w, known) == left) {
                    row[i] = w;
                }
            }
            left -= row[i] == 16 ? 0 : 1;
            taken |= row[i] == 16 ? 0 : 1 << row[i];
        }
        boolean[] coverTasks = new boolean[30];
        boolean[] coverWorkers = new boolean[16];
        for (int t : running) {
            List<Integer> others = new ArrayList<>(running);
            others.remove(Integer.valueOf(t));
            coverTasks[t] = mostPairs(others, 0, 0, new HashMap<>()) < all;
            for (int w = 0; w < workers && !coverTasks[t]; w++) {
                coverWorkers[w] |= skills[t][w];
            }
        }
        return new Found(time, running, row, coverTasks, coverWorkers);
    }

    private int checkTimes() {
        Plan now = findPlan(false);
        return now.circle == null && now.length == plan.length && Arrays.equals(now.earliest, plan.earliest)
                && Arrays.equals(now.latest, plan.latest) ? 1 : 0;
    }

    private int checkCircle() {
        for (int number : plan.circle) {
            if (droppedOnes.contains(number)) {
                return 0;
            }
        }
        return 1;
    }

    private int checkMatch() {
        Plan now = findPlan(false);
        if (now.circle != null || !running(now.earliest, found.time).equals(found.running)) {
            return 0;
        }
        for (int t : found.running) {
            for (int w = 0; w < workers; w++) {
                if (skills[t][w] && !found.coverTasks[t] && !found.coverWorkers[w]) {
                    return 0;
                }
            }
        }
        return 1;
    }
}
