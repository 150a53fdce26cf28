import java.util.function.Supplier;

/** "Terms": of every number that a call takes, the last that is taken and the first that is refused. */
public final class BoundsTest {
    private static final Answers A = new Answers("BoundsTest");

    public static void main(String[] args) {
        keys();
        values();
        groups();
        tasks();
        tasksBecomeMoreOrFewer();
        shapes();
        slacks();
        countsOfTasks();
        rules();
        movedGroups();
        hotGroups();
        times();
        timesAtTheEnd();
        marks();
        rowsOfTheOut();
        rowsOfTheLog();
        whats();
        A.end();
    }

    private static Edge edge(String call, Supplier<KeyGroups> made, Edge.Call asked) {
        return new Edge(A, call, made, asked);
    }

    private static KeyGroups scaled(int groups, int most, int n) {
        KeyGroups x = new KeyGroups();
        x.shape(groups, most);
        x.scale(n, 0);
        return x;
    }

    /** Of 6 groups key 0 is in the first and key 99 in the last but one: TASKS 0 and 2. */
    private static KeyGroups threeTasks() {
        return scaled(6, 3, 3);
    }

    private static KeyGroups firstAndLastKeyDone() {
        KeyGroups x = new KeyGroups();
        x.row(0, 5);
        x.row(99, -3);
        x.row(99, -4);
        for (int i = 0; i < 3; i++) {
            x.step(0);
        }
        return x;
    }

    /** KEYS are 0 to 99. */
    private static void keys() {
        edge("group", BoundsTest::threeTasks, (x, key) -> x.group(key))
            .from(0, 0, KeyGroups.UNKNOWN).to(99, 4, KeyGroups.UNKNOWN);
        edge("row by KEY", BoundsTest::threeTasks, (x, key) -> x.row(key, 1))
            .from(0, 0, KeyGroups.UNKNOWN).to(99, 2, KeyGroups.UNKNOWN);
        edge("add by KEY", KeyGroups::new, (x, key) -> x.add(key, 1, 1))
            .from(0, 1, KeyGroups.UNKNOWN).to(99, 1, KeyGroups.UNKNOWN);
        edge("counted", BoundsTest::firstAndLastKeyDone, (x, key) -> x.counted(key))
            .from(0, 1, KeyGroups.UNKNOWN).to(99, 2, KeyGroups.UNKNOWN);
        edge("sum", BoundsTest::firstAndLastKeyDone, (x, key) -> x.sum(key)).from(0, 5, 0).to(99, -7, 0);
        edge("timer by KEY", KeyGroups::new, (x, key) -> x.timer(key, 7))
            .from(0, 1, KeyGroups.UNKNOWN).to(99, 1, KeyGroups.UNKNOWN);
    }

    /** VALUES are -1000 to 1000, and go into the SUM whole. */
    private static void values() {
        edge("row by VALUE", KeyGroups::new, (x, v) -> x.row(0, v))
            .from(-1000, 0, KeyGroups.OUTSIDE).to(1000, 0, KeyGroups.OUTSIDE);
        edge("SUM by row", KeyGroups::new, (x, v) -> {
            x.row(7, v);
            x.step(0);
            return x.sum(7);
        }).from(-1000, -1000, 0).to(1000, 1000, 0);
        edge("add by VALUE", KeyGroups::new, (x, v) -> x.add(0, 1, v))
            .from(-1000, 1, KeyGroups.OUTSIDE).to(1000, 1, KeyGroups.OUTSIDE);
        edge("SUM by add", KeyGroups::new, (x, v) -> {
            x.add(7, 1, v);
            return x.sum(7);
        }).from(-1000, -1000, 0).to(1000, 1000, 0);
    }

    /** GROUPS are 0 to G - 1. */
    private static void groups() {
        for (int g : new int[] {2, 3, 8, 31, 32}) {
            edge("groupAt of " + g, () -> scaled(g, 2, 2), (x, group) -> x.groupAt(group, 0))
                .from(0, 0, KeyGroups.UNKNOWN).to(g - 1, 1, KeyGroups.UNKNOWN);
        }
        edge("groupAt behind a shape of fewer", () -> {
            KeyGroups x = scaled(32, 12, 12);
            x.shape(2, 1);
            return x;
        }, (x, group) -> x.groupAt(group, 1)).from(0, 1, KeyGroups.UNKNOWN).to(1, 1, KeyGroups.UNKNOWN);
        edge("groupAt behind a clear", () -> {
            KeyGroups x = scaled(32, 12, 12);
            x.clear();
            return x;
        }, (x, group) -> x.groupAt(group, 1)).from(0, 1, KeyGroups.UNKNOWN).to(7, 1, KeyGroups.UNKNOWN);
    }

    /** TASKS are 0 to N - 1, however many MOST would be. */
    private static void tasks() {
        edge("taskAt of 1", () -> scaled(32, 12, 1), (x, task) -> x.taskAt(task, 1))
            .from(0, 32, KeyGroups.UNKNOWN).to(0, 32, KeyGroups.UNKNOWN);
        edge("taskAt of 3", () -> scaled(32, 12, 3), (x, task) -> x.taskAt(task, 1))
            .from(0, 10, KeyGroups.UNKNOWN).to(2, 11, KeyGroups.UNKNOWN);
        edge("taskAt of 12", () -> scaled(32, 12, 12), (x, task) -> x.taskAt(task, 1))
            .from(0, 2, KeyGroups.UNKNOWN).to(11, 3, KeyGroups.UNKNOWN);
        edge("step of 1", () -> withRows(1), (x, task) -> x.step(task))
            .from(0, 0, KeyGroups.UNKNOWN).to(0, 0, KeyGroups.UNKNOWN);
        edge("step of 3", () -> withRows(3), (x, task) -> x.step(task))
            .from(0, 0, KeyGroups.UNKNOWN).to(2, 23, KeyGroups.UNKNOWN);
        edge("step of 12", () -> withRows(12), (x, task) -> x.step(task))
            .from(0, 0, KeyGroups.UNKNOWN).to(11, 23, KeyGroups.UNKNOWN);
    }

    /** Of 32 groups key 0 is in the first and key 23 in the last. */
    private static KeyGroups withRows(int n) {
        KeyGroups x = scaled(32, 12, n);
        x.row(0, 1);
        x.row(23, 1);
        return x;
    }

    private static void tasksBecomeMoreOrFewer() {
        for (int n : new int[] {1, 2, 11, 12}) {
            edge("taskAt behind a scale", () -> {
                KeyGroups x = scaled(32, 12, 7);
                x.scale(n, 1);
                return x;
            }, (x, task) -> Math.min(x.taskAt(task, 0), 0)).from(0, 0, KeyGroups.UNKNOWN).to(n - 1, 0, KeyGroups.UNKNOWN);
            edge("taskAt behind a restore", () -> {
                KeyGroups x = scaled(32, 12, 7);
                x.mark();
                x.restore(0, n);
                return x;
            }, (x, task) -> Math.min(x.taskAt(task, 0), 0)).from(0, 0, KeyGroups.UNKNOWN).to(n - 1, 0, KeyGroups.UNKNOWN);
        }
        edge("taskAt behind a shape", () -> {
            KeyGroups x = scaled(32, 12, 7);
            x.shape(32, 12);
            return x;
        }, (x, task) -> x.taskAt(task, 1)).from(0, 32, KeyGroups.UNKNOWN).to(0, 32, KeyGroups.UNKNOWN);
        edge("taskAt behind a clear", () -> {
            KeyGroups x = scaled(32, 12, 7);
            x.clear();
            return x;
        }, (x, task) -> x.taskAt(task, 1)).from(0, 8, KeyGroups.UNKNOWN).to(0, 8, KeyGroups.UNKNOWN);
    }

    private static long shaped(KeyGroups x, int groups, int most) {
        int answer = x.shape(groups, most);
        return answer == 1 ? 100 * x.told(0) + x.told(1) : answer;
    }

    /** G is 2 to 32; MOST is 1 to 12 and at most G. */
    private static void shapes() {
        edge("shape by G", KeyGroups::new, (x, groups) -> shaped(x, groups, 1))
            .from(2, 201, KeyGroups.OUTSIDE).to(32, 3201, KeyGroups.OUTSIDE);
        edge("shape by G with the greatest MOST", KeyGroups::new, (x, groups) -> shaped(x, groups, 12))
            .from(12, 1212, KeyGroups.OUTSIDE).to(32, 3212, KeyGroups.OUTSIDE);
        int[][] highestOf = {{2, 2}, {3, 3}, {11, 11}, {12, 12}, {13, 12}, {32, 12}};
        for (int[] pair : highestOf) {
            int g = pair[0];
            edge("shape of " + g + " by MOST", KeyGroups::new, (x, most) -> shaped(x, g, most))
                .from(1, 100 * g + 1, KeyGroups.OUTSIDE).to(pair[1], 100 * g + pair[1], KeyGroups.OUTSIDE);
        }
    }

    /** SLACK is 0 to 100, 20 at first. */
    private static void slacks() {
        edge("slack", KeyGroups::new, (x, percent) -> x.slack(percent))
            .from(0, 20, KeyGroups.OUTSIDE).to(100, 20, KeyGroups.OUTSIDE);
        edge("slack that stays", KeyGroups::new, (x, percent) -> {
            x.slack(percent);
            return x.slack(50);
        }).from(0, 0, 20).to(100, 100, 20);
    }

    /** N is 1 to MOST: below is OUTSIDE, above BEYOND. */
    private static void countsOfTasks() {
        edge("scale by RULE 0", KeyGroups::new, (x, n) -> x.scale(n, 0))
            .from(1, 0, KeyGroups.OUTSIDE).to(4, 6, KeyGroups.BEYOND);
        edge("scale by RULE 1", KeyGroups::new, (x, n) -> x.scale(n, 1))
            .from(1, 0, KeyGroups.OUTSIDE).to(4, 3, KeyGroups.BEYOND);
        edge("least", KeyGroups::new, (x, n) -> x.least(n)).from(1, 0, -1).to(4, 3, -1);
        edge("restore by N", () -> withMarks(1), (x, n) -> x.restore(0, n))
            .from(1, 1, KeyGroups.OUTSIDE).to(4, 1, KeyGroups.BEYOND);
        edge("scale of MOST 1", () -> scaled(8, 1, 1), (x, n) -> x.scale(n, 0))
            .from(1, 0, KeyGroups.OUTSIDE).to(1, 0, KeyGroups.BEYOND);
        edge("scale of MOST 12 by RULE 0", () -> scaled(32, 12, 1), (x, n) -> x.scale(n, 0))
            .from(1, 0, KeyGroups.OUTSIDE).to(12, 30, KeyGroups.BEYOND);
        edge("scale of MOST 12 by RULE 1", () -> scaled(32, 12, 1), (x, n) -> x.scale(n, 1))
            .from(1, 0, KeyGroups.OUTSIDE).to(12, 11, KeyGroups.BEYOND);
        edge("least of MOST 12", () -> scaled(32, 12, 1), (x, n) -> x.least(n)).from(1, 0, -1).to(12, 11, -1);
        edge("least of MOST 1", () -> scaled(32, 1, 1), (x, n) -> x.least(n)).from(1, 0, -1).to(1, 0, -1);
        edge("restore of MOST 12", () -> {
            KeyGroups x = scaled(32, 12, 1);
            x.mark();
            return x;
        }, (x, n) -> x.restore(0, n)).from(1, 0, KeyGroups.OUTSIDE).to(12, 0, KeyGroups.BEYOND);
    }

    /** The RULE is 0 or 1. */
    private static void rules() {
        edge("scale by its RULE", KeyGroups::new, (x, rule) -> x.scale(2, rule))
            .from(0, 4, KeyGroups.OUTSIDE).to(1, 1, KeyGroups.OUTSIDE);
    }

    /** The k-th of those that moved, from 0 on; NONE. */
    private static void movedGroups() {
        edge("moved", BoundsTest::threeTasks, (x, k) -> x.moved(k))
            .from(0, 2, KeyGroups.NONE).to(3, 5, KeyGroups.NONE);
        edge("moved of one", () -> {
            KeyGroups x = new KeyGroups();
            x.scale(2, 1);
            return x;
        }, (x, k) -> x.moved(k)).from(0, 7, KeyGroups.NONE).to(0, 7, KeyGroups.NONE);
        KeyGroups all = scaled(32, 12, 12);
        A.due("moved of the most that can", all.moved(29), 31);
        A.due("moved behind the most that can", all.moved(30), KeyGroups.NONE);
        KeyGroups x = new KeyGroups();
        for (int k : new int[] {Integer.MIN_VALUE, -1, 0, 1, Integer.MAX_VALUE}) {
            A.due("moved(" + k + ") without a scale", x.moved(k), KeyGroups.NONE);
        }
    }

    /** The k-th of those that are hot, from 0 on; NONE. */
    private static void hotGroups() {
        edge("hot", () -> {
            KeyGroups x = new KeyGroups();
            Answers.weigh(x, 0, 5, 0, 0, 7, 0, 0, 5);
            return x;
        }, (x, k) -> x.hot(k)).from(0, 4, KeyGroups.NONE).to(2, 7, KeyGroups.NONE);
        KeyGroups x = new KeyGroups();
        for (int k : new int[] {Integer.MIN_VALUE, -1, 0, 1, Integer.MAX_VALUE}) {
            A.due("hot(" + k + ") without a row", x.hot(k), KeyGroups.NONE);
        }
    }

    private static KeyGroups at(int time) {
        KeyGroups x = new KeyGroups();
        x.tick(time);
        return x;
    }

    /** A timer's time is behind TIME and at most 1000000; TIME goes on to 1000000 at most, or stays. */
    private static void times() {
        edge("timer by time", KeyGroups::new, (x, time) -> x.timer(0, time))
            .from(1, 1, KeyGroups.OUTSIDE).to(1000000, 1, KeyGroups.OUTSIDE);
        edge("timer by time at 500", () -> at(500), (x, time) -> x.timer(0, time))
            .from(501, 1, KeyGroups.OUTSIDE).to(1000000, 1, KeyGroups.OUTSIDE);
        edge("tick", KeyGroups::new, (x, t) -> x.tick(t)).from(0, 0, KeyGroups.OUTSIDE).to(1000000, 0, KeyGroups.OUTSIDE);
        edge("tick at 500", () -> {
            KeyGroups x = at(500);
            x.timer(0, 501);
            x.timer(0, 1000000);
            return x;
        }, (x, t) -> x.tick(t)).from(500, 0, KeyGroups.OUTSIDE).to(1000000, 2, KeyGroups.OUTSIDE);
        edge("TIME behind a tick at 500", () -> at(500), (x, t) -> {
            x.tick(t);
            return x.told(8);
        }).from(500, 500, 500).to(1000000, 1000000, 500);
    }

    private static void timesAtTheEnd() {
        edge("timer by time at 999999", () -> at(999999), (x, time) -> x.timer(0, time))
            .from(1000000, 1, KeyGroups.OUTSIDE).to(1000000, 1, KeyGroups.OUTSIDE);
        edge("tick at 1000000", () -> at(1000000), (x, t) -> x.tick(t))
            .from(1000000, 0, KeyGroups.OUTSIDE).to(1000000, 0, KeyGroups.OUTSIDE);
        KeyGroups x = at(1000000);
        for (int time : new int[] {Integer.MIN_VALUE, 0, 1, 999999, 1000000, 1000001, Integer.MAX_VALUE}) {
            A.due("timer(0, " + time + ") at 1000000", x.timer(0, time), KeyGroups.OUTSIDE);
        }
    }

    /** Mark 0 has one row that waits, mark 1 two, mark 2 three. */
    private static KeyGroups withMarks(int count) {
        KeyGroups x = new KeyGroups();
        for (int i = 0; i < count; i++) {
            x.row(i, 1);
            x.mark();
        }
        return x;
    }

    private static void marks() {
        for (int count = 1; count <= 3; count++) {
            int marks = count;
            edge("restore of " + count, () -> withMarks(marks), (x, mark) -> x.restore(mark, 2))
                .from(0, 1, KeyGroups.UNKNOWN).to(count - 1, count, KeyGroups.UNKNOWN);
        }
        for (int mark : new int[] {Integer.MIN_VALUE, -1, 0, 1, 2, 3, Integer.MAX_VALUE}) {
            A.due("restore(" + mark + ", 1) without a mark", new KeyGroups().restore(mark, 1), KeyGroups.UNKNOWN);
        }
    }

    private static void rowsOfTheOut() {
        edge("out by k", BoundsTest::firstAndLastKeyDone, (x, k) -> x.out(k, 2))
            .from(0, 5, KeyGroups.NONE).to(2, -7, KeyGroups.NONE);
        edge("out by what", BoundsTest::firstAndLastKeyDone, (x, what) -> x.out(1, what))
            .from(0, 1, KeyGroups.OUTSIDE).to(2, -3, KeyGroups.OUTSIDE);
        KeyGroups x = new KeyGroups();
        x.row(0, 1);
        for (int k : new int[] {Integer.MIN_VALUE, -1, 0, 1, Integer.MAX_VALUE}) {
            A.due("out(" + k + ", 0) before a step", x.out(k, 0), KeyGroups.NONE);
        }
    }

    private static KeyGroups threeTimersCame() {
        KeyGroups x = firstAndLastKeyDone();
        x.timer(0, 2);
        x.timer(99, 3);
        x.timer(50, 4);
        x.tick(4);
        return x;
    }

    private static void rowsOfTheLog() {
        edge("log by i", BoundsTest::threeTimersCame, (x, i) -> x.log(i, 0))
            .from(0, 50, KeyGroups.NONE).to(2, 0, KeyGroups.NONE);
        edge("log by what", BoundsTest::threeTimersCame, (x, what) -> x.log(1, what))
            .from(0, 99, KeyGroups.OUTSIDE).to(3, -7, KeyGroups.OUTSIDE);
        KeyGroups x = new KeyGroups();
        x.timer(0, 9);
        x.tick(8);
        for (int i : new int[] {Integer.MIN_VALUE, -1, 0, 1, Integer.MAX_VALUE}) {
            A.due("log(" + i + ", 0) before a timer came", x.log(i, 0), KeyGroups.NONE);
        }
    }

    private static void whats() {
        edge("groupAt by what", () -> withRows(3), (x, what) -> x.groupAt(31, what))
            .from(0, 2, KeyGroups.OUTSIDE).to(3, 1, KeyGroups.OUTSIDE);
        edge("taskAt by what", () -> withRows(3), (x, what) -> x.taskAt(2, what))
            .from(0, 21, KeyGroups.OUTSIDE).to(4, 1, KeyGroups.OUTSIDE);
        edge("told by what", BoundsTest::threeTasks, (x, what) -> x.told(what))
            .from(0, 6, KeyGroups.OUTSIDE).to(11, 1, KeyGroups.OUTSIDE);
    }
}
