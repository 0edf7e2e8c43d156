import java.util.ArrayList;
import java.util.Collections;
import java.util.HashMap;
import java.util.HashSet;
import java.util.List;
import java.util.Map;
import java.util.Set;

/**
 * The document's words done as slowly and as literally as they stand, to compare the program with: minute by minute,
 * with every state of a magazine, and with a search for ways round. An operation goes by its code, 10 times the job
 * and its number; an answer is a number, a truth value or the simple name of an exception.
 */
final class Model {
    private static final String INDEX = "IndexOutOfBoundsException";
    private static final String ARGUMENT = "IllegalArgumentException";
    private static final String STATE = "IllegalStateException";

    private final List<Integer> capacities = new ArrayList<>();
    private final List<int[]> breakdowns = new ArrayList<>();
    private final List<List<Integer>> rows = new ArrayList<>();
    private final List<Integer> dues = new ArrayList<>();
    /** Of each job its operations: machine, length, family, tools. */
    private final List<List<int[]>> jobs = new ArrayList<>();
    private final Set<Integer> placedJobs = new HashSet<>();
    private final int[][] setups = new int[4][4];

    Object answer(String call, int[] a) {
        switch (call) {
            case "addMachine": return addMachine();
            case "setMagazine": return setMagazine(a[0], a[1]);
            case "breakdown": return breakdown(a[0], a[1], a[2]);
            case "repair": return repair(a[0]);
            case "addJob": return addJob(a[0]);
            case "addOperation": return addOperation(a[0], a[1], a[2], a[3], a[4]);
            case "setSetup": return setSetup(a[0], a[1], a[2]);
            case "place": return place(a[0]);
            case "rush": return rush(a[0]);
            case "remove": return remove(a[0]);
            case "swap": return swap(a[0], a[1]);
            case "placed": return noMachine(a[0]) ? INDEX : (Object) rows.get(a[0]).size();
            case "placedAt": return placedAt(a[0], a[1]);
            case "startOf":
            case "startByRounds": return ofOperation(a[0], a[1], false);
            case "slack": return ofOperation(a[0], a[1], true);
            case "lateness": return lateness(a[0]);
            case "span": return span();
            case "criticals": return path().size();
            case "criticalAt": return a[0] < 0 || a[0] >= path().size() ? INDEX : (Object) path().get(a[0]);
            case "setups": return noMachine(a[0]) ? INDEX : (Object) setupSum(a[0]);
            case "loads": return noMachine(a[0]) ? INDEX : (Object) loads(a[0]);
            default: throw new IllegalStateException(call);
        }
    }

    private boolean noMachine(int m) {
        return m < 0 || m >= rows.size();
    }

    private boolean noJob(int j) {
        return j < 0 || j >= jobs.size();
    }

    private static boolean outside(int value, int least, int most) {
        return value < least || value > most;
    }

    private Object addMachine() {
        if (rows.size() == 4) {
            return STATE;
        }
        capacities.add(4);
        breakdowns.add(null);
        rows.add(new ArrayList<>());
        return rows.size() - 1;
    }

    private Object setMagazine(int m, int capacity) {
        if (noMachine(m)) {
            return INDEX;
        }
        if (outside(capacity, 1, 8)) {
            return ARGUMENT;
        }
        for (List<int[]> job : jobs) {
            for (int[] o : job) {
                if (o[0] == m && Integer.bitCount(o[3]) > capacity) {
                    return STATE;
                }
            }
        }
        return capacities.set(m, capacity);
    }

    private Object breakdown(int m, int from, int to) {
        if (noMachine(m)) {
            return INDEX;
        }
        if (outside(from, 0, 9999) || outside(to, from + 1, 10000)) {
            return ARGUMENT;
        }
        breakdowns.set(m, new int[] {from, to});
        return span();
    }

    private Object repair(int m) {
        return noMachine(m) ? INDEX : (Object) (breakdowns.set(m, null) != null);
    }

    private Object addJob(int due) {
        if (outside(due, 0, 10000)) {
            return ARGUMENT;
        }
        if (jobs.size() == 8) {
            return STATE;
        }
        dues.add(due);
        jobs.add(new ArrayList<>());
        return jobs.size() - 1;
    }

    private Object addOperation(int j, int m, int length, int family, int tools) {
        if (noJob(j) || noMachine(m)) {
            return INDEX;
        }
        if (outside(length, 1, 200) || outside(family, 0, 3) || outside(tools, 0, 255)) {
            return ARGUMENT;
        }
        if (jobs.get(j).size() == 4 || placedJobs.contains(j) || Integer.bitCount(tools) > capacities.get(m)) {
            return STATE;
        }
        jobs.get(j).add(new int[] {m, length, family, tools});
        return jobs.get(j).size() - 1;
    }

    private Object setSetup(int family, int other, int minutes) {
        if (outside(family, 0, 3) || outside(other, 0, 3)) {
            return INDEX;
        }
        if (outside(minutes, 0, 60)) {
            return ARGUMENT;
        }
        int before = setups[family][other];
        setups[family][other] = minutes;
        return before;
    }

    private Object place(int j) {
        if (noJob(j)) {
            return INDEX;
        }
        if (placedJobs.contains(j) || jobs.get(j).isEmpty()) {
            return STATE;
        }
        for (int i = 0; i < jobs.get(j).size(); i++) {
            rows.get(jobs.get(j).get(i)[0]).add(10 * j + i);
        }
        placedJobs.add(j);
        return span();
    }

    private Object rush(int j) {
        if (noJob(j)) {
            return INDEX;
        }
        if (placedJobs.contains(j) || jobs.get(j).isEmpty()) {
            return STATE;
        }
        for (int i = 0; i < jobs.get(j).size(); i++) {
            List<Integer> row = rows.get(jobs.get(j).get(i)[0]);
            List<int[]> found = new ArrayList<>();
            for (int p = 0; p <= row.size(); p++) {
                row.add(p, 10 * j + i);
                if (!hasWayRound()) {
                    found.add(new int[] {span(), starts().get(10 * j + i), p});
                }
                row.remove(p);
            }
            int[] best = Collections.min(found, java.util.Arrays::compare);
            row.add(best[2], 10 * j + i);
        }
        placedJobs.add(j);
        return span();
    }

    private Object remove(int j) {
        if (noJob(j)) {
            return INDEX;
        }
        if (!placedJobs.remove(j)) {
            return STATE;
        }
        for (List<Integer> row : rows) {
            row.removeIf(code -> code / 10 == j);
        }
        return span();
    }

    private Object swap(int m, int p) {
        if (noMachine(m) || p < 0 || p >= rows.get(m).size() || p == rows.get(m).size() - 1) {
            return INDEX;
        }
        Collections.swap(rows.get(m), p, p + 1);
        if (hasWayRound()) {
            Collections.swap(rows.get(m), p, p + 1);
            return STATE;
        }
        return span();
    }

    private Object placedAt(int m, int p) {
        return noMachine(m) || p < 0 || p >= rows.get(m).size() ? INDEX : (Object) rows.get(m).get(p);
    }

    private Object ofOperation(int j, int i, boolean slack) {
        if (noJob(j) || i < 0 || i >= jobs.get(j).size()) {
            return INDEX;
        }
        if (!placedJobs.contains(j)) {
            return STATE;
        }
        int start = starts().get(10 * j + i);
        return slack ? latestStart(10 * j + i, new HashMap<>()) - start : start;
    }

    private Object lateness(int j) {
        if (noJob(j)) {
            return INDEX;
        }
        if (!placedJobs.contains(j)) {
            return STATE;
        }
        int last = 10 * j + jobs.get(j).size() - 1;
        return Math.max(0, starts().get(last) + of(last)[1] - dues.get(j));
    }

    private int[] of(int code) {
        return jobs.get(code / 10).get(code % 10);
    }

    /** The operation so many places behind another one on its machine; null if there is none. */
    private Integer onMachine(int code, int by) {
        List<Integer> row = rows.get(of(code)[0]);
        int p = row.indexOf(code) + by;
        return p < 0 || p >= row.size() ? null : row.get(p);
    }

    private Integer inJob(int code, int by) {
        int i = code % 10 + by;
        if (i < 0 || i >= jobs.get(code / 10).size()) {
            return null;
        }
        int other = code / 10 * 10 + i;
        return rows.get(of(other)[0]).contains(other) ? other : null;
    }

    private int setup(Integer from, int to) {
        return setups[from == null ? 0 : of(from)[2]][of(to)[2]];
    }

    private boolean hasWayRound() {
        for (List<Integer> row : rows) {
            for (int code : row) {
                Set<Integer> seen = new HashSet<>();
                follow(code, seen);
                if (seen.contains(code)) {
                    return true;
                }
            }
        }
        return false;
    }

    private void follow(int code, Set<Integer> seen) {
        for (Integer next : new Integer[] {inJob(code, 1), onMachine(code, 1)}) {
            if (next != null && seen.add(next)) {
                follow(next, seen);
            }
        }
    }

    private boolean runs(int m, int start, int length) {
        int[] broken = breakdowns.get(m);
        for (int minute = start; broken != null && minute < start + length; minute++) {
            if (minute >= broken[0] && minute < broken[1]) {
                return false;
            }
        }
        return true;
    }

    private Map<Integer, Integer> starts() {
        Map<Integer, Integer> starts = new HashMap<>();
        for (List<Integer> row : rows) {
            for (int code : row) {
                start(code, starts);
            }
        }
        return starts;
    }

    private int start(int code, Map<Integer, Integer> starts) {
        Integer known = starts.get(code);
        if (known != null) {
            return known;
        }
        Integer job = inJob(code, -1);
        Integer machine = onMachine(code, -1);
        int byJob = job == null ? 0 : start(job, starts) + of(job)[1];
        int byMachine = machine == null ? 0 : start(machine, starts) + of(machine)[1];
        int start = Math.max(byJob, byMachine + setup(machine, code));
        while (!runs(of(code)[0], start, of(code)[1])) {
            start++;
        }
        starts.put(code, start);
        return start;
    }

    private int latestStart(int code, Map<Integer, Integer> latest) {
        Integer known = latest.get(code);
        if (known != null) {
            return known;
        }
        int finish = span();
        Integer job = inJob(code, 1);
        Integer machine = onMachine(code, 1);
        if (job != null) {
            finish = Math.min(finish, latestStart(job, latest));
        }
        if (machine != null) {
            finish = Math.min(finish, latestStart(machine, latest) - setup(code, machine));
        }
        int start = finish - of(code)[1];
        while (!runs(of(code)[0], start, of(code)[1])) {
            start--;
        }
        latest.put(code, start);
        return start;
    }

    private int span() {
        int span = 0;
        for (Map.Entry<Integer, Integer> entry : starts().entrySet()) {
            span = Math.max(span, entry.getValue() + of(entry.getKey())[1]);
        }
        return span;
    }

    private List<Integer> path() {
        Map<Integer, Integer> starts = starts();
        List<Integer> ends = new ArrayList<>();
        for (int code : starts.keySet()) {
            if (starts.get(code) + of(code)[1] == span()) {
                ends.add(code);
            }
        }
        List<Integer> path = new ArrayList<>();
        Integer next = ends.isEmpty() ? null : Collections.min(ends);
        while (next != null) {
            path.add(0, next);
            Integer job = inJob(next, -1);
            Integer machine = onMachine(next, -1);
            int start = starts.get(next);
            if (job != null && starts.get(job) + of(job)[1] == start) {
                next = job;
            } else if (machine != null && starts.get(machine) + of(machine)[1] + setup(machine, next) == start) {
                next = machine;
            } else {
                next = null;
            }
        }
        return path;
    }

    private int setupSum(int m) {
        int sum = 0;
        for (int code : rows.get(m)) {
            sum += setup(onMachine(code, -1), code);
        }
        return sum;
    }

    /** The least puttings by which each content of the magazine can be reached, operation by operation. */
    private int loads(int m) {
        int far = 1000000;
        int[] cost = new int[256];
        java.util.Arrays.fill(cost, far);
        cost[0] = 0;
        for (int code : rows.get(m)) {
            int needed = of(code)[3];
            int[] next = new int[256];
            java.util.Arrays.fill(next, far);
            for (int inside = 0; inside < 256; inside++) {
                int all = inside | needed;
                for (int then = 0; then < 256 && cost[inside] < far; then++) {
                    boolean fits = (then & ~all) == 0 && (needed & ~then) == 0
                            && Integer.bitCount(then) <= capacities.get(m);
                    if (fits) {
                        next[then] = Math.min(next[then], cost[inside] + Integer.bitCount(needed & ~inside));
                    }
                }
            }
            cost = next;
        }
        int least = far;
        for (int value : cost) {
            least = Math.min(least, value);
        }
        return least;
    }
}
