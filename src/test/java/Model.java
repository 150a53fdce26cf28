import java.util.ArrayList;
import java.util.Arrays;
import java.util.Comparator;
import java.util.HashMap;
import java.util.List;
import java.util.Map;

/**
 * The document in its plainest words, with lists that are sorted and filtered at each call and plans
 * that are found by trying all ranges, where these are not too many: slow, and written apart from
 * KeyGroups to be compared with it.
 */
final class Model {
    record Row(int number, int key, int value) { }
    record Timer(int key, int time, int set) { }
    record State(int count, long sum) { }
    record Done(int number, int key, long sum) { }
    record Came(int key, int time, int count, long sum) { }
    record Mark(Map<Integer, State> states, List<Row> waiting, List<Timer> timers, int time, int came) { }

    private static final int WAYS_TO_TRY = 1000;
    private static final long NO_WAY = 1L << 40;

    private int g;
    private int most;
    private int n;
    private int slack;
    private int came;
    private int time;
    private int set;
    private int scales;
    private int[] owner;
    private int[] epoch;
    private int[] weight;
    private List<Integer> moved;
    private Map<Integer, State> states;
    private List<Row> waiting;
    private List<Timer> timers;
    private List<Done> out;
    private List<Came> log;
    private List<Mark> marks;

    Model() {
        clear();
    }

    int clear() {
        int before = came;
        slack = 20;
        came = 0;
        time = 0;
        scales = 0;
        moved = new ArrayList<>();
        states = new HashMap<>();
        waiting = new ArrayList<>();
        timers = new ArrayList<>();
        out = new ArrayList<>();
        log = new ArrayList<>();
        marks = new ArrayList<>();
        setShape(8, 4);
        return before;
    }

    private void setShape(int groups, int mostTasks) {
        g = groups;
        most = mostTasks;
        n = 1;
        owner = new int[g];
        weight = new int[g];
        epoch = new int[g];
        for (int i = 0; i < g; i++) {
            epoch[i] = 1;
        }
    }

    int shape(int groups, int mostTasks) {
        if (groups < 2 || groups > 32 || mostTasks < 1 || mostTasks > 12 || mostTasks > groups) {
            return -102;
        }
        if (came != 0 || !timers.isEmpty() || !marks.isEmpty()) {
            return -103;
        }
        setShape(groups, mostTasks);
        return 1;
    }

    int slack(int percent) {
        if (percent < 0 || percent > 100) {
            return -102;
        }
        int before = slack;
        slack = percent;
        return before;
    }

    int group(int key) {
        if (key < 0 || key > 99) {
            return -101;
        }
        long x = (key * 0x9E3779B1L + 7L * key) & 0xFFFFFFFFL;
        long y = x ^ (x / 32768);
        return (int) (y / 2 % g);
    }

    private State stateOf(int key) {
        return states.getOrDefault(key, new State(0, 0));
    }

    int row(int key, int v) {
        if (key < 0 || key > 99) {
            return -101;
        }
        if (Math.abs((long) v) > 1000) {
            return -102;
        }
        if (came == 400) {
            return -107;
        }
        waiting.add(new Row(came++, key, v));
        weight[group(key)]++;
        return owner[group(key)];
    }

    private List<Row> line(int task) {
        return waiting.stream().filter(r -> owner[group(r.key())] == task)
            .sorted(Comparator.comparingInt(Row::number)).toList();
    }

    int step(int task) {
        if (task < 0 || task >= n) {
            return -101;
        }
        if (line(task).isEmpty()) {
            return -106;
        }
        Row row = line(task).get(0);
        waiting.remove(row);
        State before = stateOf(row.key());
        states.put(row.key(), new State(before.count() + 1, before.sum() + row.value()));
        out.add(new Done(row.number(), row.key(), before.sum() + row.value()));
        return row.key();
    }

    int add(int key, int told, int v) {
        if (key < 0 || key > 99) {
            return -101;
        }
        if (Math.abs((long) v) > 1000) {
            return -102;
        }
        if (epoch[group(key)] != told) {
            return -104;
        }
        states.put(key, new State(stateOf(key).count(), stateOf(key).sum() + v));
        return 1;
    }

    private int[] even(int tasks) {
        int[] plan = new int[g];
        for (int i = 0; i < tasks; i++) {
            for (int j = i * g / tasks; j <= (i + 1) * g / tasks - 1; j++) {
                plan[j] = i;
            }
        }
        return plan;
    }

    private long cost(int[] plan) {
        long all = 0;
        for (int i = 0; i < g; i++) {
            all += plan[i] == owner[i] ? 0 : weight[i] + 1;
        }
        return all;
    }

    private long limit(int tasks) {
        long hundreds = told(6) * (100L + slack);
        return hundreds / (100L * tasks) + (hundreds % (100L * tasks) == 0 ? 0 : 1);
    }

    private boolean isUnderLimit(int[] plan, int tasks) {
        long limit = limit(tasks);
        for (int task = 0; task < tasks; task++) {
            long together = 0;
            for (int i = 0; i < g; i++) {
                together += plan[i] == task ? weight[i] : 0;
            }
            if (together > limit) {
                return false;
            }
        }
        return true;
    }

    /** All ranges of so many tasks, those with the fewest groups of TASK 0 first, then of TASK 1. */
    private void allRanges(int tasks, int task, int first, int[] plan, List<int[]> found) {
        if (task == tasks - 1) {
            for (int i = first; i < g; i++) {
                plan[i] = task;
            }
            found.add(plan.clone());
            return;
        }
        for (int end = first + 1; end <= g - (tasks - 1 - task); end++) {
            for (int i = first; i < end; i++) {
                plan[i] = task;
            }
            allRanges(tasks, task + 1, end, plan, found);
        }
    }

    private int[] leastPlan(int tasks) {
        int[] byRests = leastByRests(tasks);
        if (waysOf(tasks) <= WAYS_TO_TRY && !Arrays.equals(byRests, leastByTrying(tasks))) {
            throw new IllegalStateException("the model's own two plans differ");
        }
        return byRests;
    }

    private long waysOf(int tasks) {
        long ways = 1;
        for (int i = 1; i < tasks; i++) {
            ways = ways * (g - i) / i;
        }
        return ways;
    }

    private int[] leastByTrying(int tasks) {
        List<int[]> found = new ArrayList<>();
        allRanges(tasks, 0, 0, new int[g], found);
        int[] best = null;
        for (int[] plan : found) {
            if (isUnderLimit(plan, tasks) && (best == null || cost(plan) < cost(best))) {
                best = plan;
            }
        }
        return best;
    }

    /** For ranges too many to try: what the tasks from one on move at least when they have all from a group on. */
    private int[] leastByRests(int tasks) {
        long[][] rest = new long[tasks + 1][g + 1];
        for (long[] row : rest) {
            Arrays.fill(row, NO_WAY);
        }
        rest[tasks][g] = 0;
        for (int task = tasks - 1; task >= 0; task--) {
            for (int first = 0; first < g; first++) {
                for (int end = first + 1; end <= g; end++) {
                    rest[task][first] = Math.min(rest[task][first], costOfRange(task, first, end, tasks) + rest[task + 1][end]);
                }
            }
        }
        if (rest[0][0] >= NO_WAY) {
            return null;
        }
        int[] plan = new int[g];
        int first = 0;
        for (int task = 0; task < tasks; task++) {
            int end = first + 1;
            while (costOfRange(task, first, end, tasks) + rest[task + 1][end] != rest[task][first]) {
                end++;
            }
            Arrays.fill(plan, first, end, task);
            first = end;
        }
        return plan;
    }

    private long costOfRange(int task, int first, int end, int tasks) {
        long together = 0;
        long cost = 0;
        for (int i = first; i < end; i++) {
            together += weight[i];
            cost += owner[i] == task ? 0 : weight[i] + 1;
        }
        return together > limit(tasks) ? NO_WAY : cost;
    }

    int scale(int tasks, int rule) {
        if (tasks < 1 || rule < 0 || rule > 1) {
            return -102;
        }
        if (tasks > most) {
            return -105;
        }
        int[] plan = rule == 0 ? even(tasks) : leastPlan(tasks);
        if (plan == null) {
            return -106;
        }
        moved = new ArrayList<>();
        for (int i = 0; i < g; i++) {
            if (plan[i] != owner[i]) {
                moved.add(i);
                epoch[i]++;
            }
            weight[i] = weight[i] / 2;
        }
        owner = plan;
        n = tasks;
        scales++;
        return moved.size();
    }

    int moved(int k) {
        return k < 0 || k >= moved.size() ? -106 : moved.get(k);
    }

    long least(int tasks) {
        if (tasks < 1 || tasks > most) {
            return -1;
        }
        int[] plan = leastPlan(tasks);
        return plan == null ? -1 : cost(plan);
    }

    int groupAt(int group, int what) {
        if (group < 0 || group >= g) {
            return -101;
        }
        return switch (what) {
            case 0 -> owner[group];
            case 1 -> epoch[group];
            case 2 -> weight[group];
            case 3 -> (int) waiting.stream().filter(r -> group(r.key()) == group).count();
            default -> -102;
        };
    }

    int taskAt(int task, int what) {
        if (task < 0 || task >= n) {
            return -101;
        }
        List<Integer> own = new ArrayList<>();
        for (int i = 0; i < g; i++) {
            if (owner[i] == task) {
                own.add(i);
            }
        }
        return switch (what) {
            case 0 -> own.get(0);
            case 1 -> own.size();
            case 2 -> own.stream().mapToInt(i -> weight[i]).sum();
            case 3 -> line(task).size();
            case 4 -> line(task).isEmpty() ? -106 : line(task).get(0).number();
            default -> -102;
        };
    }

    int counted(int key) {
        return key < 0 || key > 99 ? -101 : stateOf(key).count();
    }

    long sum(int key) {
        return key < 0 || key > 99 ? 0 : stateOf(key).sum();
    }

    int hot(int k) {
        List<Integer> all = new ArrayList<>();
        for (int i = 0; i < g; i++) {
            if (weight[i] * g > 2 * told(6)) {
                all.add(i);
            }
        }
        all.sort(Comparator.comparingInt((Integer i) -> -weight[i]).thenComparingInt(i -> i));
        return k < 0 || k >= all.size() ? -106 : all.get(k);
    }

    int timer(int key, int at) {
        if (key < 0 || key > 99) {
            return -101;
        }
        if (at <= time || at > 1000000) {
            return -102;
        }
        if (timers.size() == 40) {
            return -107;
        }
        timers.add(new Timer(key, at, set++));
        return timers.size();
    }

    int tick(int t) {
        if (t < time || t > 1000000) {
            return -102;
        }
        List<Timer> due = timers.stream().filter(x -> x.time() <= t)
            .sorted(Comparator.comparingInt(Timer::time).thenComparingInt(Timer::key).thenComparingInt(Timer::set))
            .toList();
        for (Timer timer : due) {
            State state = stateOf(timer.key());
            log.add(0, new Came(timer.key(), timer.time(), state.count(), state.sum()));
            states.remove(timer.key());
            timers.remove(timer);
        }
        while (log.size() > 32) {
            log.remove(32);
        }
        time = t;
        return due.size();
    }

    long out(int k, int what) {
        if (what < 0 || what > 2) {
            return -102;
        }
        if (k < 0 || k >= out.size()) {
            return -106;
        }
        Done row = out.get(k);
        return what == 0 ? row.number() : what == 1 ? row.key() : row.sum();
    }

    long log(int i, int what) {
        if (what < 0 || what > 3) {
            return -102;
        }
        if (i < 0 || i >= log.size()) {
            return -106;
        }
        Came row = log.get(i);
        return what == 0 ? row.key() : what == 1 ? row.time() : what == 2 ? row.count() : row.sum();
    }

    int mark() {
        if (marks.size() == 3) {
            return -107;
        }
        marks.add(new Mark(new HashMap<>(states), new ArrayList<>(waiting), new ArrayList<>(timers), time, came));
        return marks.size() - 1;
    }

    int restore(int mark, int tasks) {
        if (mark < 0 || mark >= marks.size()) {
            return -101;
        }
        if (tasks < 1) {
            return -102;
        }
        if (tasks > most) {
            return -105;
        }
        Mark held = marks.get(mark);
        states = new HashMap<>(held.states());
        waiting = new ArrayList<>(held.waiting());
        timers = new ArrayList<>(held.timers());
        time = held.time();
        came = held.came();
        owner = even(tasks);
        n = tasks;
        weight = new int[g];
        for (int i = 0; i < g; i++) {
            epoch[i]++;
        }
        out = new ArrayList<>();
        log = new ArrayList<>();
        return waiting.size();
    }

    int digest() {
        int d = 17;
        for (int i = 0; i < g; i++) {
            d = d * 31 + (owner[i] * 100 + epoch[i]);
        }
        return d;
    }

    int told(int what) {
        int total = 0;
        for (int w : weight) {
            total += w;
        }
        int[] all = {g, most, n, came, waiting.size(), out.size(), total, timers.size(), time, log.size(),
            marks.size(), scales};
        return what < 0 || what >= all.length ? -102 : all[what];
    }
}
