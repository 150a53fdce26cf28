import java.util.Random;

/** All promises: runs of calls drawn from a fixed seed, on KeyGroups and on the model at once. */
public final class ModelTest {
    private static final Answers A = new Answers("ModelTest");
    private static final int RUNS = 1500;
    private static final int CALLS = 512;
    private static final int[] EDGES = {Integer.MIN_VALUE, Integer.MAX_VALUE, -1, 0, 1, 99, 100, 1000, 1001, -1000,
        -1001, 1000000, 1000001};

    private final Random random;
    private final KeyGroups x = new KeyGroups();
    private final Model m = new Model();

    private ModelTest(long seed) {
        random = new Random(seed);
    }

    public static void main(String[] args) {
        for (int seed = 0; seed < RUNS; seed++) {
            new ModelTest(seed).run(seed);
        }
        A.end();
    }

    private void run(int seed) {
        // Trying all ranges is dear: most runs have few groups, some have many and few tasks.
        boolean many = seed % 10 == 0;
        int groups = many ? 2 + random.nextInt(31) : 2 + random.nextInt(9);
        int most = 1 + random.nextInt(Math.min(groups, many ? 4 : 12));
        if (seed % 7 != 0) {
            A.due("shape", x.shape(groups, most), m.shape(groups, most));
        }
        boolean loose = random.nextBoolean();
        for (int call = 1; call < CALLS; call++) {
            one(random.nextInt(loose ? 100 : 85));
        }
        all();
    }

    /** Now and then a number from the edges of all ranges instead of the one that fits. */
    private int or(int fitting) {
        return random.nextInt(25) == 0 ? EDGES[random.nextInt(EDGES.length)] : fitting;
    }

    private int below(int bound) {
        return random.nextInt(bound + 2) - 1;
    }

    private int key() {
        return or(random.nextInt(3) == 0 ? random.nextInt(4) : random.nextInt(100));
    }

    private int value() {
        return or(random.nextInt(2001) - 1000);
    }

    private int tasks() {
        return or(random.nextInt(m.told(1)) + 1);
    }

    private void one(int kind) {
        if (kind < 30) {
            rows(kind);
        } else if (kind < 50) {
            plans(kind);
        } else if (kind < 65) {
            times(kind);
        } else if (kind < 85) {
            looks(kind);
        } else {
            rare(kind);
        }
    }

    private void rows(int kind) {
        if (kind < 16) {
            int key = key();
            int v = value();
            A.due("row", x.row(key, v), m.row(key, v));
        } else if (kind < 24) {
            int task = or(below(m.told(2)));
            A.due("step", x.step(task), m.step(task));
        } else {
            int key = key();
            int v = value();
            int epoch = or(m.groupAt(Math.max(0, m.group(key)), 1) - (random.nextInt(4) == 0 ? 1 : 0));
            A.due("add", x.add(key, epoch, v), m.add(key, epoch, v));
        }
    }

    private void plans(int kind) {
        if (kind < 34) {
            int n = tasks();
            int rule = or(random.nextInt(5) == 0 ? 0 : 1);
            A.due("scale", x.scale(n, rule), m.scale(n, rule));
        } else if (kind < 38) {
            int n = tasks();
            A.due("least", x.least(n), m.least(n));
        } else if (kind < 40) {
            int k = or(below(m.told(0)));
            A.due("moved", x.moved(k), m.moved(k));
        } else if (kind < 42) {
            int k = or(below(4));
            A.due("hot", x.hot(k), m.hot(k));
        } else if (kind < 43) {
            int percent = or(random.nextInt(101));
            A.due("slack", x.slack(percent), m.slack(percent));
        } else if (kind < 46) {
            int group = or(below(m.told(0)));
            int what = or(below(4));
            A.due("groupAt", x.groupAt(group, what), m.groupAt(group, what));
        } else {
            int task = or(below(m.told(2)));
            int what = or(below(5));
            A.due("taskAt", x.taskAt(task, what), m.taskAt(task, what));
        }
    }

    private void times(int kind) {
        if (kind < 60) {
            int key = key();
            int time = or(m.told(8) + below(6));
            A.due("timer", x.timer(key, time), m.timer(key, time));
        } else {
            int t = m.told(8) + below(random.nextInt(4) == 0 ? 6 : 1);
            A.due("tick", x.tick(t), m.tick(t));
        }
    }

    private void looks(int kind) {
        if (kind < 69) {
            int k = or(below(m.told(5)));
            int what = or(below(3));
            A.due("out", x.out(k, what), m.out(k, what));
        } else if (kind < 73) {
            int i = or(below(m.told(9)));
            int what = or(below(4));
            A.due("log", x.log(i, what), m.log(i, what));
        } else if (kind < 77) {
            int what = or(below(12));
            A.due("told", x.told(what), m.told(what));
        } else if (kind < 80) {
            A.due("digest", x.digest(), m.digest());
        } else {
            int key = key();
            A.due("group", x.group(key), m.group(key));
            A.due("counted", x.counted(key), m.counted(key));
            A.due("sum", x.sum(key), m.sum(key));
        }
    }

    private void rare(int kind) {
        if (kind < 90) {
            int mark = below(3);
            int n = tasks();
            A.due("restore", x.restore(mark, n), m.restore(mark, n));
        } else if (kind < 93) {
            A.due("mark", x.mark(), m.mark());
        } else if (kind < 98) {
            int groups = or(2 + random.nextInt(9));
            int most = or(1 + random.nextInt(4));
            A.due("shape", x.shape(groups, most), m.shape(groups, most));
        } else if (random.nextInt(6) == 0) {
            A.due("clear", x.clear(), m.clear());
        } else {
            int t = or(m.told(8));
            A.due("tick", x.tick(t), m.tick(t));
        }
    }

    private void all() {
        for (int what = 0; what < 12; what++) {
            A.due("told at the end", x.told(what), m.told(what));
        }
        for (int key = 0; key < 100; key++) {
            A.due("counted at the end", x.counted(key), m.counted(key));
            A.due("sum at the end", x.sum(key), m.sum(key));
        }
        for (int group = 0; group < m.told(0); group++) {
            for (int what = 0; what < 4; what++) {
                A.due("groupAt at the end", x.groupAt(group, what), m.groupAt(group, what));
            }
        }
        for (int task = 0; task < m.told(2); task++) {
            for (int what = 0; what < 5; what++) {
                A.due("taskAt at the end", x.taskAt(task, what), m.taskAt(task, what));
            }
        }
        for (int k = 0; k <= m.told(5); k++) {
            for (int what = 0; what < 3; what++) {
                A.due("out at the end", x.out(k, what), m.out(k, what));
            }
        }
        for (int i = 0; i <= m.told(9); i++) {
            for (int what = 0; what < 4; what++) {
                A.due("log at the end", x.log(i, what), m.log(i, what));
            }
        }
    }
}
