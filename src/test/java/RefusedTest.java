/**
 * "Terms": of a refused call nothing changes. Every refusal of every call is asked of an object that
 * has something of all things, and of a new one; then the object is compared with one that wasn't asked.
 */
public final class RefusedTest {
    private static final Answers A = new Answers("RefusedTest");
    private static final int MIN = Integer.MIN_VALUE;
    private static final int MAX = Integer.MAX_VALUE;

    public static void main(String[] args) {
        Twins rich = new Twins(A, "something of all", RefusedTest::withAll);
        shapes(rich);
        keys(rich);
        rowsAndSteps(rich);
        adds(rich);
        scales(rich);
        looks(rich);
        times(rich);
        marks(rich);
        questions(rich);
        shapesInTheWay();
        full();
        empty();
        A.end();
    }

    /**
     * 8 groups, 3 tasks of at most 4, SLACK 0; group 2 (key 3) has most of the weight, so that there are
     * no ranges of 4; nothing waits in the line of TASK 2; TIME is 9; two marks that differ.
     */
    private static KeyGroups withAll() {
        KeyGroups x = new KeyGroups();
        x.slack(0);
        x.scale(3, 0);
        x.row(0, 10);
        for (int i = 0; i < 9; i++) {
            x.row(3, 20 + i);
        }
        x.row(5, 30);
        x.step(1);
        x.step(1);
        x.add(9, 2, 70);
        x.timer(3, 5);
        x.timer(9, 9);
        x.timer(0, 12);
        x.mark();
        x.tick(5);
        x.step(1);
        x.step(0);
        x.mark();
        x.row(5, 60);
        x.timer(6, 30);
        x.tick(9);
        return x;
    }

    private static void shapes(Twins rich) {
        rich.noTrace("shape(9, 3)", KeyGroups.STATE, x -> x.shape(9, 3));
        rich.noTrace("shape(1, 1)", KeyGroups.OUTSIDE, x -> x.shape(1, 1));
        rich.noTrace("shape(33, 4)", KeyGroups.OUTSIDE, x -> x.shape(33, 4));
        rich.noTrace("shape(8, 0)", KeyGroups.OUTSIDE, x -> x.shape(8, 0));
        rich.noTrace("shape(32, 13)", KeyGroups.OUTSIDE, x -> x.shape(32, 13));
        rich.noTrace("shape(6, 7)", KeyGroups.OUTSIDE, x -> x.shape(6, 7));
        rich.noTrace("slack(-1)", KeyGroups.OUTSIDE, x -> x.slack(-1));
        rich.noTrace("slack(101)", KeyGroups.OUTSIDE, x -> x.slack(101));
    }

    private static void keys(Twins rich) {
        for (int key : new int[] {MIN, -1, 100, MAX}) {
            String of = " of KEY " + key;
            rich.noTrace("group" + of, KeyGroups.UNKNOWN, x -> x.group(key));
            rich.noTrace("row" + of, KeyGroups.UNKNOWN, x -> x.row(key, 1));
            rich.noTrace("add" + of, KeyGroups.UNKNOWN, x -> x.add(key, 1, 1));
            rich.noTrace("counted" + of, KeyGroups.UNKNOWN, x -> x.counted(key));
            rich.noTrace("sum" + of, 0, x -> x.sum(key));
            rich.noTrace("timer" + of, KeyGroups.UNKNOWN, x -> x.timer(key, 20));
        }
    }

    private static void rowsAndSteps(Twins rich) {
        rich.noTrace("row(0, 1001)", KeyGroups.OUTSIDE, x -> x.row(0, 1001));
        rich.noTrace("row(0, -1001)", KeyGroups.OUTSIDE, x -> x.row(0, -1001));
        rich.noTrace("step(-1)", KeyGroups.UNKNOWN, x -> x.step(-1));
        rich.noTrace("step(3)", KeyGroups.UNKNOWN, x -> x.step(3));
        rich.noTrace("step(2) of an empty line", KeyGroups.NONE, x -> x.step(2));
    }

    private static void adds(Twins rich) {
        rich.noTrace("add(9, 2, 1001)", KeyGroups.OUTSIDE, x -> x.add(9, 2, 1001));
        rich.noTrace("add(9, 2, -1001)", KeyGroups.OUTSIDE, x -> x.add(9, 2, -1001));
        for (int epoch : new int[] {MIN, -2, 0, 1, 3, MAX}) {
            rich.noTrace("add(9, " + epoch + ", 1) of EPOCH 2", KeyGroups.OLD, x -> x.add(9, epoch, 1));
        }
    }

    private static void scales(Twins rich) {
        rich.noTrace("scale(0, 0)", KeyGroups.OUTSIDE, x -> x.scale(0, 0));
        rich.noTrace("scale(-1, 1)", KeyGroups.OUTSIDE, x -> x.scale(-1, 1));
        rich.noTrace("scale(2, -1)", KeyGroups.OUTSIDE, x -> x.scale(2, -1));
        rich.noTrace("scale(2, 2)", KeyGroups.OUTSIDE, x -> x.scale(2, 2));
        rich.noTrace("scale(5, 0)", KeyGroups.BEYOND, x -> x.scale(5, 0));
        rich.noTrace("scale(5, 1)", KeyGroups.BEYOND, x -> x.scale(5, 1));
        rich.noTrace("scale(4, 1)", KeyGroups.NONE, x -> x.scale(4, 1));
        rich.noTrace("least(0)", -1, x -> x.least(0));
        rich.noTrace("least(5)", -1, x -> x.least(5));
        rich.noTrace("least(4)", -1, x -> x.least(4));
        rich.noTrace("moved(-1)", KeyGroups.NONE, x -> x.moved(-1));
        rich.noTrace("moved(6)", KeyGroups.NONE, x -> x.moved(6));
        rich.noTrace("hot(-1)", KeyGroups.NONE, x -> x.hot(-1));
        rich.noTrace("hot(1)", KeyGroups.NONE, x -> x.hot(1));
    }

    private static void looks(Twins rich) {
        rich.noTrace("groupAt(-1, 0)", KeyGroups.UNKNOWN, x -> x.groupAt(-1, 0));
        rich.noTrace("groupAt(8, 0)", KeyGroups.UNKNOWN, x -> x.groupAt(8, 0));
        rich.noTrace("groupAt(0, -1)", KeyGroups.OUTSIDE, x -> x.groupAt(0, -1));
        rich.noTrace("groupAt(0, 4)", KeyGroups.OUTSIDE, x -> x.groupAt(0, 4));
        rich.noTrace("taskAt(-1, 0)", KeyGroups.UNKNOWN, x -> x.taskAt(-1, 0));
        rich.noTrace("taskAt(3, 0)", KeyGroups.UNKNOWN, x -> x.taskAt(3, 0));
        rich.noTrace("taskAt(0, -1)", KeyGroups.OUTSIDE, x -> x.taskAt(0, -1));
        rich.noTrace("taskAt(0, 5)", KeyGroups.OUTSIDE, x -> x.taskAt(0, 5));
        rich.noTrace("taskAt(2, 4)", KeyGroups.NONE, x -> x.taskAt(2, 4));
        rich.noTrace("out(-1, 0)", KeyGroups.NONE, x -> x.out(-1, 0));
        rich.noTrace("out(4, 0)", KeyGroups.NONE, x -> x.out(4, 0));
        rich.noTrace("out(0, -1)", KeyGroups.OUTSIDE, x -> x.out(0, -1));
        rich.noTrace("out(0, 3)", KeyGroups.OUTSIDE, x -> x.out(0, 3));
        rich.noTrace("log(-1, 0)", KeyGroups.NONE, x -> x.log(-1, 0));
        rich.noTrace("log(2, 0)", KeyGroups.NONE, x -> x.log(2, 0));
        rich.noTrace("log(0, -1)", KeyGroups.OUTSIDE, x -> x.log(0, -1));
        rich.noTrace("log(0, 4)", KeyGroups.OUTSIDE, x -> x.log(0, 4));
        rich.noTrace("told(-1)", KeyGroups.OUTSIDE, x -> x.told(-1));
        rich.noTrace("told(12)", KeyGroups.OUTSIDE, x -> x.told(12));
    }

    private static void times(Twins rich) {
        rich.noTrace("timer(0, 9) at 9", KeyGroups.OUTSIDE, x -> x.timer(0, 9));
        rich.noTrace("timer(0, 8) at 9", KeyGroups.OUTSIDE, x -> x.timer(0, 8));
        rich.noTrace("timer(0, 1000001)", KeyGroups.OUTSIDE, x -> x.timer(0, 1000001));
        rich.noTrace("tick(8) at 9", KeyGroups.OUTSIDE, x -> x.tick(8));
        rich.noTrace("tick(-1) at 9", KeyGroups.OUTSIDE, x -> x.tick(-1));
        rich.noTrace("tick(1000001)", KeyGroups.OUTSIDE, x -> x.tick(1000001));
        rich.noTrace("tick(9) at 9", 0, x -> x.tick(9));
    }

    private static void marks(Twins rich) {
        rich.noTrace("restore(-1, 1)", KeyGroups.UNKNOWN, x -> x.restore(-1, 1));
        rich.noTrace("restore(2, 1)", KeyGroups.UNKNOWN, x -> x.restore(2, 1));
        rich.noTrace("restore(0, 0)", KeyGroups.OUTSIDE, x -> x.restore(0, 0));
        rich.noTrace("restore(0, -1)", KeyGroups.OUTSIDE, x -> x.restore(0, -1));
        rich.noTrace("restore(0, 5)", KeyGroups.BEYOND, x -> x.restore(0, 5));
    }

    /** A question changes nothing either, also when it has an answer; least() says so of itself. */
    private static void questions(Twins rich) {
        rich.noTrace("least(1)", 15, x -> x.least(1));
        rich.noTrace("group(99)", 0, x -> x.group(99));
        rich.noTrace("moved(5)", 7, x -> x.moved(5));
        rich.noTrace("hot(0)", 2, x -> x.hot(0));
        rich.noTrace("groupAt(2, 3)", 6, x -> x.groupAt(2, 3));
        rich.noTrace("taskAt(1, 4)", 4, x -> x.taskAt(1, 4));
        rich.noTrace("counted(3)", 1, x -> x.counted(3));
        rich.noTrace("sum(9)", 0, x -> x.sum(9));
        rich.noTrace("out(3, 2)", 10, x -> x.out(3, 2));
        rich.noTrace("log(1, 3)", 41, x -> x.log(1, 3));
        rich.noTrace("told(3)", 12, x -> x.told(3));
        int digest = withAll().digest();
        rich.noTrace("digest()", digest, x -> x.digest());
    }

    /** STATE: a row came, a timer or a mark is there; each of them alone is in the way. */
    private static void shapesInTheWay() {
        new Twins(A, "a row waits", () -> {
            KeyGroups x = new KeyGroups();
            x.row(0, 1);
            return x;
        }).noTrace("shape(9, 3)", KeyGroups.STATE, x -> x.shape(9, 3));
        new Twins(A, "a row came and is done", () -> {
            KeyGroups x = new KeyGroups();
            x.row(0, 1);
            x.step(0);
            return x;
        }).noTrace("shape(9, 3)", KeyGroups.STATE, x -> x.shape(9, 3));
        new Twins(A, "a timer waits", () -> {
            KeyGroups x = new KeyGroups();
            x.timer(0, 1);
            return x;
        }).noTrace("shape(9, 3)", KeyGroups.STATE, x -> x.shape(9, 3));
        new Twins(A, "a mark is there", () -> {
            KeyGroups x = new KeyGroups();
            x.mark();
            return x;
        }).noTrace("shape(9, 3)", KeyGroups.STATE, x -> x.shape(9, 3));
    }

    /** 448 calls: the rest of the 512 is left for one look. */
    private static KeyGroups withAllThatFits() {
        KeyGroups x = new KeyGroups();
        x.shape(32, 12);
        x.scale(12, 0);
        for (int i = 0; i < 400; i++) {
            x.row(i % 100, i % 7);
        }
        x.step(0);
        x.step(5);
        x.step(11);
        for (int i = 0; i < 40; i++) {
            x.timer(i, 100 + i);
        }
        for (int i = 0; i < 3; i++) {
            x.mark();
        }
        return x;
    }

    private static void full() {
        Twins full = new Twins(A, "all that fits", RefusedTest::withAllThatFits);
        full.noTrace("row(0, 1)", KeyGroups.ROOM, x -> x.row(0, 1));
        full.noTrace("timer(0, 1000)", KeyGroups.ROOM, x -> x.timer(0, 1000));
        full.noTrace("mark()", KeyGroups.ROOM, x -> x.mark());
        full.noTrace("scale(13, 0)", KeyGroups.BEYOND, x -> x.scale(13, 0));
        full.noTrace("restore(3, 1)", KeyGroups.UNKNOWN, x -> x.restore(3, 1));
        full.noTrace("restore(2, 13)", KeyGroups.BEYOND, x -> x.restore(2, 13));
    }

    private static void empty() {
        Twins empty = new Twins(A, "a new object", KeyGroups::new);
        empty.noTrace("step(0)", KeyGroups.NONE, x -> x.step(0));
        empty.noTrace("moved(0)", KeyGroups.NONE, x -> x.moved(0));
        empty.noTrace("hot(0)", KeyGroups.NONE, x -> x.hot(0));
        empty.noTrace("taskAt(0, 4)", KeyGroups.NONE, x -> x.taskAt(0, 4));
        empty.noTrace("out(0, 0)", KeyGroups.NONE, x -> x.out(0, 0));
        empty.noTrace("log(0, 0)", KeyGroups.NONE, x -> x.log(0, 0));
        empty.noTrace("restore(0, 1)", KeyGroups.UNKNOWN, x -> x.restore(0, 1));
        empty.noTrace("add(0, 0, 1)", KeyGroups.OLD, x -> x.add(0, 0, 1));
        empty.noTrace("timer(0, 0)", KeyGroups.OUTSIDE, x -> x.timer(0, 0));
        empty.noTrace("tick(-1)", KeyGroups.OUTSIDE, x -> x.tick(-1));
        empty.noTrace("tick(0)", 0, x -> x.tick(0));
        empty.noTrace("clear()", 0, x -> x.clear());
        new Twins(A, "a new object", KeyGroups::new).same("one that had all and was cleared", () -> {
            KeyGroups x = withAll();
            A.due("clear()", x.clear(), 12);
            return x;
        });
        new Twins(A, "a new object", KeyGroups::new).same("one that was full and was cleared", () -> {
            KeyGroups x = withAllThatFits();
            A.due("clear()", x.clear(), 400);
            return x;
        });
    }
}
