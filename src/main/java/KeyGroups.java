import java.util.Arrays;

/**
 * Keys hashed to groups, groups in ranges of tasks. Rows, states and timers belong to keys, so that
 * they go with their group when its owner becomes another task.
 */
public final class KeyGroups {
    public static final int UNKNOWN = -101, OUTSIDE = -102, STATE = -103, OLD = -104, BEYOND = -105, NONE = -106, ROOM = -107;

    private static final int KEYS = 100;
    private static final int GREATEST_VALUE = 1000;
    private static final int LEAST_GROUPS = 2;
    private static final int MOST_GROUPS = 32;
    private static final int MOST_TASKS = 12;
    private static final int MOST_ROWS = 400;
    private static final int MOST_TIMERS = 40;
    private static final int MOST_MARKS = 3;
    private static final int LOG_KEPT = 32;
    private static final int LAST_TIME = 1000000;
    private static final int FIRST_GROUPS = 8;
    private static final int FIRST_MOST = 4;
    private static final int FIRST_SLACK = 20;
    private static final int GREATEST_SLACK = 100;
    private static final int NO_RANGES = -1;

    private final Owners owners;
    private final Plan plan;
    private final Held now;
    private final Out theOut;
    private final Log theLog;
    private final Held[] marks;
    private int marksMade;
    private int slackPercent;

    public KeyGroups() {
        owners = new Owners();
        plan = new Plan();
        now = new Held();
        theOut = new Out();
        theLog = new Log();
        marks = new Held[MOST_MARKS];
        slackPercent = FIRST_SLACK;
    }

    public int shape(int groups, int most) {
        if (groups < LEAST_GROUPS || groups > MOST_GROUPS) {
            return OUTSIDE;
        }
        if (most < 1 || most > MOST_TASKS || most > groups) {
            return OUTSIDE;
        }
        if (now.rows.came > 0 || now.timers.size > 0 || marksMade > 0) {
            return STATE;
        }
        owners.giveAllToOne(groups, most);
        return 1;
    }

    public int slack(int percent) {
        if (percent < 0 || percent > GREATEST_SLACK) {
            return OUTSIDE;
        }
        int before = slackPercent;
        slackPercent = percent;
        return before;
    }

    public int group(int key) {
        return isKey(key) ? owners.groupOf(key) : UNKNOWN;
    }

    public int row(int key, int v) {
        if (!isKey(key)) {
            return UNKNOWN;
        }
        if (!isValue(v)) {
            return OUTSIDE;
        }
        if (now.rows.came >= MOST_ROWS) {
            return ROOM;
        }
        int group = owners.groupOf(key);
        now.rows.enter(key, v);
        owners.weight[group]++;
        return owners.owner[group];
    }

    public int step(int task) {
        if (!isTask(task)) {
            return UNKNOWN;
        }
        int place = firstInLine(task);
        if (place == NONE) {
            return NONE;
        }
        int number = now.rows.number[place];
        int key = now.rows.key[place];
        now.states.count[key]++;
        now.states.sum[key] += now.rows.value[place];
        now.rows.takeOut(place);
        theOut.put(number, key, now.states.sum[key]);
        return key;
    }

    public int add(int key, int epoch, int v) {
        if (!isKey(key)) {
            return UNKNOWN;
        }
        if (!isValue(v)) {
            return OUTSIDE;
        }
        if (owners.epoch[owners.groupOf(key)] != epoch) {
            return OLD;
        }
        now.states.sum[key] += v;
        return 1;
    }

    public int scale(int n, int rule) {
        if (n < 1 || rule < 0 || rule > 1) {
            return OUTSIDE;
        }
        if (n > owners.most) {
            return BEYOND;
        }
        if (rule == 0) {
            plan.layEven(owners.groups, n);
        } else if (plan.layLeast(owners, n, slackPercent) == NO_RANGES) {
            return NONE;
        }
        return owners.follow(plan.owner, n);
    }

    public int moved(int k) {
        return k < 0 || k >= owners.movedCount ? NONE : owners.movedGroup[k];
    }

    public long least(int n) {
        if (n < 1 || n > owners.most) {
            return -1;
        }
        int moves = plan.layLeast(owners, n, slackPercent);
        return moves == NO_RANGES ? -1 : moves;
    }

    public int groupAt(int group, int what) {
        if (group < 0 || group >= owners.groups) {
            return UNKNOWN;
        }
        switch (what) {
            case 0: return owners.owner[group];
            case 1: return owners.epoch[group];
            case 2: return owners.weight[group];
            case 3: return waitingOfGroup(group);
            default: return OUTSIDE;
        }
    }

    public int taskAt(int task, int what) {
        if (!isTask(task)) {
            return UNKNOWN;
        }
        switch (what) {
            case 0: return owners.firstOf(task);
            case 1: return owners.countOf(task);
            case 2: return owners.weightOf(task);
            case 3: return lengthOfLine(task);
            case 4: return firstNumberInLine(task);
            default: return OUTSIDE;
        }
    }

    public int counted(int key) {
        return isKey(key) ? now.states.count[key] : UNKNOWN;
    }

    public long sum(int key) {
        return isKey(key) ? now.states.sum[key] : 0;
    }

    public int hot(int k) {
        int total = owners.totalWeight();
        for (int group = 0; group < owners.groups; group++) {
            if (owners.isHot(group, total) && owners.aheadOf(group) == k) {
                return group;
            }
        }
        return NONE;
    }

    public int timer(int key, int time) {
        if (!isKey(key)) {
            return UNKNOWN;
        }
        if (time <= now.timers.reached || time > LAST_TIME) {
            return OUTSIDE;
        }
        if (now.timers.size >= MOST_TIMERS) {
            return ROOM;
        }
        now.timers.enter(key, time);
        return now.timers.size;
    }

    public int tick(int t) {
        if (t < now.timers.reached || t > LAST_TIME) {
            return OUTSIDE;
        }
        int due = now.timers.dueAt(t);
        for (int i = 0; i < due; i++) {
            int key = now.timers.key[i];
            theLog.put(key, now.timers.time[i], now.states.count[key], now.states.sum[key]);
            now.states.forget(key);
        }
        now.timers.takeFirst(due);
        now.timers.reached = t;
        return due;
    }

    public long out(int k, int what) {
        if (what < 0 || what > 2) {
            return OUTSIDE;
        }
        if (k < 0 || k >= theOut.size) {
            return NONE;
        }
        switch (what) {
            case 0: return theOut.number[k];
            case 1: return theOut.key[k];
            default: return theOut.sum[k];
        }
    }

    public long log(int i, int what) {
        if (what < 0 || what > 3) {
            return OUTSIDE;
        }
        if (i < 0 || i >= theLog.size) {
            return NONE;
        }
        int place = theLog.placeOf(i);
        switch (what) {
            case 0: return theLog.key[place];
            case 1: return theLog.time[place];
            case 2: return theLog.count[place];
            default: return theLog.sum[place];
        }
    }

    public int mark() {
        if (marksMade >= MOST_MARKS) {
            return ROOM;
        }
        int number = marksMade;
        // A mark's room is made once, when first needed, and used again after clear().
        if (marks[number] == null) {
            marks[number] = new Held();
        }
        marks[number].copyFrom(now);
        marksMade++;
        return number;
    }

    public int restore(int mark, int n) {
        if (mark < 0 || mark >= marksMade || marks[mark] == null) {
            return UNKNOWN;
        }
        if (n < 1) {
            return OUTSIDE;
        }
        if (n > owners.most) {
            return BEYOND;
        }
        now.copyFrom(marks[mark]);
        plan.layEven(owners.groups, n);
        owners.startAnew(plan.owner, n);
        theOut.size = 0;
        theLog.size = 0;
        return now.rows.size;
    }

    public int digest() {
        int d = 17;
        for (int group = 0; group < owners.groups; group++) {
            d = 31 * d + 100 * owners.owner[group] + owners.epoch[group];
        }
        return d;
    }

    public int told(int what) {
        switch (what) {
            case 0: return owners.groups;
            case 1: return owners.most;
            case 2: return owners.tasks;
            case 3: return now.rows.came;
            case 4: return now.rows.size;
            case 5: return theOut.size;
            case 6: return owners.totalWeight();
            case 7: return now.timers.size;
            case 8: return now.timers.reached;
            case 9: return theLog.size;
            case 10: return marksMade;
            case 11: return owners.scales;
            default: return OUTSIDE;
        }
    }

    public int clear() {
        int came = now.rows.came;
        owners.begin();
        now.begin();
        theOut.size = 0;
        theLog.size = 0;
        marksMade = 0;
        slackPercent = FIRST_SLACK;
        return came;
    }

    private static boolean isKey(int key) {
        return key >= 0 && key < KEYS;
    }

    private static boolean isValue(int v) {
        return v >= -GREATEST_VALUE && v <= GREATEST_VALUE;
    }

    private boolean isTask(int task) {
        return task >= 0 && task < owners.tasks;
    }

    private boolean waitsFor(int task, int place) {
        return owners.owner[owners.groupOf(now.rows.key[place])] == task;
    }

    private int firstInLine(int task) {
        for (int place = 0; place < now.rows.size; place++) {
            if (waitsFor(task, place)) {
                return place;
            }
        }
        return NONE;
    }

    private int firstNumberInLine(int task) {
        int place = firstInLine(task);
        return place == NONE ? NONE : now.rows.number[place];
    }

    private int lengthOfLine(int task) {
        int length = 0;
        for (int place = 0; place < now.rows.size; place++) {
            if (waitsFor(task, place)) {
                length++;
            }
        }
        return length;
    }

    private int waitingOfGroup(int group) {
        int waiting = 0;
        for (int place = 0; place < now.rows.size; place++) {
            if (owners.groupOf(now.rows.key[place]) == group) {
                waiting++;
            }
        }
        return waiting;
    }

    /** Groups with their owners, epochs and weights, and what the latest scale moved. */
    private static final class Owners {
        // Always LEAST_GROUPS to MOST_GROUPS, so that it may index and divide without another look.
        int groups;
        int most;
        int tasks;
        int scales;
        int movedCount;
        final int[] owner;
        final int[] epoch;
        final int[] weight;
        final int[] movedGroup;

        Owners() {
            owner = new int[MOST_GROUPS];
            epoch = new int[MOST_GROUPS];
            weight = new int[MOST_GROUPS];
            movedGroup = new int[MOST_GROUPS];
            begin();
        }

        void begin() {
            scales = 0;
            movedCount = 0;
            giveAllToOne(FIRST_GROUPS, FIRST_MOST);
        }

        void giveAllToOne(int groupCount, int mostTasks) {
            groups = groupCount;
            most = mostTasks;
            tasks = 1;
            Arrays.fill(owner, 0);
            Arrays.fill(epoch, 1);
            Arrays.fill(weight, 0);
        }

        int groupOf(int key) {
            int x = key * 0x9E3779B1 + 7 * key;
            int y = x ^ (x >>> 15);
            return (y >>> 1) % groups;
        }

        /** Takes over the owners of a plan and tells how many groups have another one. */
        int follow(int[] planned, int n) {
            movedCount = 0;
            for (int group = 0; group < groups; group++) {
                if (owner[group] != planned[group]) {
                    owner[group] = planned[group];
                    epoch[group]++;
                    movedGroup[movedCount] = group;
                    movedCount++;
                }
                weight[group] /= 2;
            }
            tasks = n;
            scales++;
            return movedCount;
        }

        /** After a restore every owner is a new one, whatever task it was before. */
        void startAnew(int[] planned, int n) {
            for (int group = 0; group < groups; group++) {
                owner[group] = planned[group];
                epoch[group]++;
                weight[group] = 0;
            }
            tasks = n;
        }

        int totalWeight() {
            int total = 0;
            for (int group = 0; group < groups; group++) {
                total += weight[group];
            }
            return total;
        }

        int firstOf(int task) {
            for (int group = 0; group < groups; group++) {
                if (owner[group] == task) {
                    return group;
                }
            }
            return NONE;
        }

        int countOf(int task) {
            int count = 0;
            for (int group = 0; group < groups; group++) {
                if (owner[group] == task) {
                    count++;
                }
            }
            return count;
        }

        int weightOf(int task) {
            int together = 0;
            for (int group = 0; group < groups; group++) {
                if (owner[group] == task) {
                    together += weight[group];
                }
            }
            return together;
        }

        boolean isHot(int group, int total) {
            return weight[group] * groups > 2 * total;
        }

        /** How many groups stand ahead of this one by weight, then by number. */
        int aheadOf(int group) {
            int ahead = 0;
            for (int other = 0; other < groups; other++) {
                boolean heavier = weight[other] > weight[group];
                boolean equalAndEarlier = weight[other] == weight[group] && other < group;
                if (heavier || equalAndEarlier) {
                    ahead++;
                }
            }
            return ahead;
        }

        int costToGive(int group, int task) {
            return owner[group] == task ? 0 : weight[group] + 1;
        }
    }

    /** Lays ranges out beside the owners that are, so that a plan can be asked for without being done. */
    private static final class Plan {
        // Far above all weights and ones together, and far below where an int wraps.
        static final int NO_WAY = 1000000;

        final int[] owner;
        // best[first]: the least moved when the groups from first on go to the tasks looked at so far.
        final int[] best;
        final int[][] endOf;

        Plan() {
            owner = new int[MOST_GROUPS];
            best = new int[MOST_GROUPS + 1];
            endOf = new int[MOST_TASKS][MOST_GROUPS + 1];
        }

        void layEven(int groups, int n) {
            for (int task = 0; task < n; task++) {
                layRange(task, task * groups / n, (task + 1) * groups / n);
            }
        }

        /** Lays the ranges that move least under the limit: what they move, or NO_RANGES. */
        int layLeast(Owners before, int n, int slackPercent) {
            int limit = limitOf(before.totalWeight(), slackPercent, n);
            Arrays.fill(best, NO_WAY);
            best[before.groups] = 0;
            for (int task = n - 1; task >= 0; task--) {
                putTaskAhead(before, task, limit);
            }
            if (best[0] >= NO_WAY) {
                return NO_RANGES;
            }
            layChosen(n);
            return best[0];
        }

        static int limitOf(int total, int slackPercent, int n) {
            int divisor = 100 * n;
            return (total * (100 + slackPercent) + divisor - 1) / divisor;
        }

        /**
         * Ascending firsts let one row serve all tasks: a range that begins at first looks only at
         * places behind it, which still tell of the tasks behind this one.
         */
        void putTaskAhead(Owners before, int task, int limit) {
            for (int first = 0; first <= before.groups; first++) {
                best[first] = chooseEnd(before, task, first, limit);
            }
        }

        /** Only a smaller sum takes another end, so that of equal ones the fewest groups stay chosen. */
        int chooseEnd(Owners before, int task, int first, int limit) {
            int least = NO_WAY;
            int together = 0;
            int cost = 0;
            for (int group = first; group < before.groups; group++) {
                together += before.weight[group];
                if (together > limit) {
                    break;
                }
                cost += before.costToGive(group, task);
                if (cost + best[group + 1] < least) {
                    least = cost + best[group + 1];
                    endOf[task][first] = group + 1;
                }
            }
            return least;
        }

        void layChosen(int n) {
            int first = 0;
            for (int task = 0; task < n; task++) {
                int end = endOf[task][first];
                layRange(task, first, end);
                first = end;
            }
        }

        void layRange(int task, int first, int end) {
            for (int group = first; group < end; group++) {
                owner[group] = task;
            }
        }
    }

    /** What a mark holds: the object's present has one of these, and each mark another. */
    private static final class Held {
        final States states;
        final Rows rows;
        final Timers timers;

        Held() {
            states = new States();
            rows = new Rows();
            timers = new Timers();
        }

        void begin() {
            states.begin();
            rows.begin();
            timers.begin();
        }

        void copyFrom(Held other) {
            states.copyFrom(other.states);
            rows.copyFrom(other.rows);
            timers.copyFrom(other.timers);
        }
    }

    /** Count and sum of each key. */
    private static final class States {
        final int[] count;
        final long[] sum;

        States() {
            count = new int[KEYS];
            sum = new long[KEYS];
        }

        void begin() {
            Arrays.fill(count, 0);
            Arrays.fill(sum, 0L);
        }

        void forget(int key) {
            count[key] = 0;
            sum[key] = 0;
        }

        void copyFrom(States other) {
            System.arraycopy(other.count, 0, count, 0, KEYS);
            System.arraycopy(other.sum, 0, sum, 0, KEYS);
        }
    }

    /** The rows that wait, by their numbers: a line is those among them whose group a task owns. */
    private static final class Rows {
        final int[] number;
        final int[] key;
        final int[] value;
        int size;
        int came;

        Rows() {
            number = new int[MOST_ROWS];
            key = new int[MOST_ROWS];
            value = new int[MOST_ROWS];
        }

        void begin() {
            size = 0;
            came = 0;
        }

        // No more wait than came, so that a row that may come has a place.
        void enter(int newKey, int newValue) {
            number[size] = came;
            key[size] = newKey;
            value[size] = newValue;
            size++;
            came++;
        }

        void takeOut(int place) {
            int behind = size - place - 1;
            System.arraycopy(number, place + 1, number, place, behind);
            System.arraycopy(key, place + 1, key, place, behind);
            System.arraycopy(value, place + 1, value, place, behind);
            size--;
        }

        void copyFrom(Rows other) {
            System.arraycopy(other.number, 0, number, 0, other.size);
            System.arraycopy(other.key, 0, key, 0, other.size);
            System.arraycopy(other.value, 0, value, 0, other.size);
            size = other.size;
            came = other.came;
        }
    }

    /** The timers that wait, in the order in which they come, and the time that was reached. */
    private static final class Timers {
        final int[] key;
        final int[] time;
        int size;
        int reached;

        Timers() {
            key = new int[MOST_TIMERS];
            time = new int[MOST_TIMERS];
        }

        void begin() {
            size = 0;
            reached = 0;
        }

        void enter(int newKey, int newTime) {
            int place = placeFor(newKey, newTime);
            System.arraycopy(key, place, key, place + 1, size - place);
            System.arraycopy(time, place, time, place + 1, size - place);
            key[place] = newKey;
            time[place] = newTime;
            size++;
        }

        /** Behind those that are its equals: they were set earlier. */
        int placeFor(int newKey, int newTime) {
            int place = size;
            while (place > 0 && comesAhead(newKey, newTime, place - 1)) {
                place--;
            }
            return place;
        }

        boolean comesAhead(int newKey, int newTime, int place) {
            return newTime < time[place] || (newTime == time[place] && newKey < key[place]);
        }

        int dueAt(int t) {
            int due = 0;
            while (due < size && time[due] <= t) {
                due++;
            }
            return due;
        }

        void takeFirst(int gone) {
            System.arraycopy(key, gone, key, 0, size - gone);
            System.arraycopy(time, gone, time, 0, size - gone);
            size -= gone;
        }

        void copyFrom(Timers other) {
            System.arraycopy(other.key, 0, key, 0, other.size);
            System.arraycopy(other.time, 0, time, 0, other.size);
            size = other.size;
            reached = other.reached;
        }
    }

    /** The rows that were done. A restore empties it, so that each number stands in it once at most. */
    private static final class Out {
        final int[] number;
        final int[] key;
        final long[] sum;
        int size;

        Out() {
            number = new int[MOST_ROWS];
            key = new int[MOST_ROWS];
            sum = new long[MOST_ROWS];
        }

        void put(int rowNumber, int rowKey, long sumThen) {
            if (size >= MOST_ROWS) {
                return;
            }
            number[size] = rowNumber;
            key[size] = rowKey;
            sum[size] = sumThen;
            size++;
        }
    }

    /** The latest timers that came, in a ring. */
    private static final class Log {
        final int[] key;
        final int[] time;
        final int[] count;
        final long[] sum;
        int next;
        int size;

        Log() {
            key = new int[LOG_KEPT];
            time = new int[LOG_KEPT];
            count = new int[LOG_KEPT];
            sum = new long[LOG_KEPT];
        }

        void put(int timerKey, int timerTime, int countThen, long sumThen) {
            key[next] = timerKey;
            time[next] = timerTime;
            count[next] = countThen;
            sum[next] = sumThen;
            next = (next + 1) % LOG_KEPT;
            size = Math.min(size + 1, LOG_KEPT);
        }

        int placeOf(int latest) {
            return Math.floorMod(next - 1 - latest, LOG_KEPT);
        }
    }
}
