import java.util.ArrayList;
import java.util.Collections;
import java.util.List;
import java.util.Random;
import java.util.function.ToLongFunction;

/** All promises: runs of 512 calls drawn from fixed seeds, on KeyGroups and on the model at once. */
public final class ModelTest {
    private static final Answers A = new Answers("ModelTest");
    private static final int RUNS = 1600;
    private static final int CALLS = 512;
    private static final int[] EDGES = {Integer.MIN_VALUE, Integer.MAX_VALUE, -1, 0, 1, 99, 100, 1000, 1001, -1000,
        -1001, 1000000, 1000001};

    /** Of 100 calls: rows, plans, times, looks, rare ones. The second kind of runs fills all 400 rows. */
    private static final int[][] SHARES = {{30, 20, 15, 20, 15}, {94, 2, 1, 3, 0}, {12, 8, 65, 13, 2}, {30, 50, 2, 13, 5}};

    private final int seed;
    private final Random random;
    private final KeyGroups x = new KeyGroups();
    private final Model m = new Model();
    private final int kind;
    private int made;

    private ModelTest(int seed) {
        this.seed = seed;
        random = new Random(seed);
        kind = seed % SHARES.length;
    }

    public static void main(String[] args) {
        for (int seed = 0; seed < RUNS; seed++) {
            new ModelTest(seed).run();
        }
        A.end();
    }

    private void run() {
        boolean many = random.nextInt(4) == 0;
        int groups = many ? 2 + random.nextInt(31) : 2 + random.nextInt(11);
        int most = 1 + random.nextInt(Math.min(groups, 12));
        if (random.nextInt(7) != 0) {
            due("shape", x.shape(groups, most), m.shape(groups, most));
        }
        int drawn = kind == 1 ? 490 : 100 + random.nextInt(400);
        while (made < drawn) {
            one();
        }
        lookAtAll();
    }

    private void due(String call, long got, long want) {
        made++;
        A.due("run " + seed + ", call " + made + ", " + call, got, want);
    }

    /** Now and then a number from the edges of all ranges instead of the one that fits. */
    private int or(int fitting) {
        return random.nextInt(25) == 0 ? EDGES[random.nextInt(EDGES.length)] : fitting;
    }

    private int below(int bound) {
        return random.nextInt(bound + 2) - 1;
    }

    private int key() {
        return or(random.nextInt(3) == 0 ? random.nextInt(4) : random.nextInt(100));
    }

    private int value() {
        return or(random.nextInt(2001) - 1000);
    }

    private int tasks() {
        return or(random.nextInt(m.told(1)) + 1);
    }

    private void one() {
        int[] shares = SHARES[kind];
        int left = random.nextInt(100);
        int family = 0;
        while (left >= shares[family]) {
            left -= shares[family];
            family++;
        }
        switch (family) {
            case 0 -> rows();
            case 1 -> plans();
            case 2 -> times();
            case 3 -> looks();
            default -> rare();
        }
    }

    private void rows() {
        int drawn = random.nextInt(kind == 1 ? 200 : 30);
        if (drawn < 8) {
            int task = or(below(m.told(2)));
            due("step", x.step(task), m.step(task));
        } else if (drawn < 14 && kind != 1) {
            int key = key();
            int v = value();
            int epoch = or(m.groupAt(Math.max(0, m.group(key)), 1) - (random.nextInt(4) == 0 ? 1 : 0));
            due("add", x.add(key, epoch, v), m.add(key, epoch, v));
        } else {
            int key = key();
            int v = value();
            due("row", x.row(key, v), m.row(key, v));
        }
    }

    private void plans() {
        int drawn = random.nextInt(20);
        if (drawn < 4) {
            int n = tasks();
            int rule = or(random.nextInt(5) == 0 ? 0 : 1);
            due("scale", x.scale(n, rule), m.scale(n, rule));
        } else if (drawn < 8) {
            int n = tasks();
            due("least", x.least(n), m.least(n));
        } else if (drawn < 10) {
            int k = or(below(m.told(0)));
            due("moved", x.moved(k), m.moved(k));
        } else if (drawn < 12) {
            int k = or(below(4));
            due("hot", x.hot(k), m.hot(k));
        } else if (drawn < 13) {
            int percent = or(random.nextInt(101));
            due("slack", x.slack(percent), m.slack(percent));
        } else if (drawn < 16) {
            int group = or(below(m.told(0)));
            int what = or(below(4));
            due("groupAt", x.groupAt(group, what), m.groupAt(group, what));
        } else {
            int task = or(below(m.told(2)));
            int what = or(below(5));
            due("taskAt", x.taskAt(task, what), m.taskAt(task, what));
        }
    }

    private void times() {
        if (random.nextInt(15) < 10) {
            int key = key();
            int time = or(m.told(8) + below(kind == 2 ? 30 : 6));
            due("timer", x.timer(key, time), m.timer(key, time));
        } else {
            int t = m.told(8) + below(random.nextInt(4) == 0 ? 6 : 1);
            due("tick", x.tick(t), m.tick(t));
        }
    }

    private void looks() {
        int drawn = random.nextInt(20);
        if (drawn < 4) {
            int k = or(below(m.told(5)));
            int what = or(below(3));
            due("out", x.out(k, what), m.out(k, what));
        } else if (drawn < 8) {
            int i = or(below(m.told(9)));
            int what = or(below(4));
            due("log", x.log(i, what), m.log(i, what));
        } else if (drawn < 12) {
            int what = or(below(12));
            due("told", x.told(what), m.told(what));
        } else if (drawn < 15) {
            due("digest", x.digest(), m.digest());
        } else {
            int key = key();
            due("group", x.group(key), m.group(key));
            due("counted", x.counted(key), m.counted(key));
            due("sum", x.sum(key), m.sum(key));
        }
    }

    private void rare() {
        int drawn = random.nextInt(15);
        if (drawn < 5) {
            int mark = below(3);
            int n = tasks();
            due("restore", x.restore(mark, n), m.restore(mark, n));
        } else if (drawn < 8) {
            due("mark", x.mark(), m.mark());
        } else if (drawn < 13) {
            int groups = or(2 + random.nextInt(9));
            int most = or(1 + random.nextInt(4));
            due("shape", x.shape(groups, most), m.shape(groups, most));
        } else if (random.nextInt(6) == 0) {
            due("clear", x.clear(), m.clear());
        } else {
            int t = or(m.told(8));
            due("tick", x.tick(t), m.tick(t));
        }
    }

    private record Look(String call, ToLongFunction<KeyGroups> got, ToLongFunction<Model> want) { }

    /** As many looks as are left of the 512 calls: which ones is drawn. */
    private void lookAtAll() {
        List<Look> all = new ArrayList<>();
        addNumbers(all);
        addRows(all);
        Collections.shuffle(all, random);
        for (int i = 0; i < all.size() && made < CALLS; i++) {
            Look look = all.get(i);
            due(look.call() + " at the end", look.got().applyAsLong(x), look.want().applyAsLong(m));
        }
    }

    private void addNumbers(List<Look> all) {
        for (int i = 0; i < 12; i++) {
            int what = i;
            all.add(new Look("told", k -> k.told(what), k -> k.told(what)));
        }
        for (int i = 0; i < 100; i++) {
            int key = i;
            all.add(new Look("counted", k -> k.counted(key), k -> k.counted(key)));
            all.add(new Look("sum", k -> k.sum(key), k -> k.sum(key)));
        }
        for (int i = 0; i < m.told(0) * 4; i++) {
            int place = i;
            all.add(new Look("groupAt", k -> k.groupAt(place / 4, place % 4), k -> k.groupAt(place / 4, place % 4)));
        }
        for (int i = 0; i < m.told(2) * 5; i++) {
            int place = i;
            all.add(new Look("taskAt", k -> k.taskAt(place / 5, place % 5), k -> k.taskAt(place / 5, place % 5)));
        }
    }

    private void addRows(List<Look> all) {
        for (int i = 0; i < m.told(5) * 3; i++) {
            int place = i;
            all.add(new Look("out", k -> k.out(place / 3, place % 3), k -> k.out(place / 3, place % 3)));
        }
        for (int i = 0; i < m.told(9) * 4; i++) {
            int place = i;
            all.add(new Look("log", k -> k.log(place / 4, place % 4), k -> k.log(place / 4, place % 4)));
        }
    }
}
