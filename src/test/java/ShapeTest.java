/** Promises 1 to 4 and 22 to 24: a new object, shape, slack, group, digest, told, clear. */
public final class ShapeTest {
    private static final Answers A = new Answers("ShapeTest");

    public static void main(String[] args) {
        newObject();
        shapeBounds();
        shapeState();
        shapeKeepsTheRest();
        slack();
        groups();
        digest();
        told();
        clear();
        A.end();
    }

    private static void newObject() {
        KeyGroups x = new KeyGroups();
        beginning("new", x);
    }

    private static void beginning(String when, KeyGroups x) {
        long[] due = {8, 4, 1, 0, 0, 0, 0, 0, 0, 0, 0, 0};
        for (int what = 0; what < due.length; what++) {
            A.due(when + ": told(" + what + ")", x.told(what), due[what]);
        }
        for (int group = 0; group < 8; group++) {
            A.due(when + ": owner of " + group, x.groupAt(group, 0), 0);
            A.due(when + ": epoch of " + group, x.groupAt(group, 1), 1);
            A.due(when + ": weight of " + group, x.groupAt(group, 2), 0);
            A.due(when + ": rows of " + group, x.groupAt(group, 3), 0);
        }
        for (int key = 0; key < 100; key++) {
            A.due(when + ": counted(" + key + ")", x.counted(key), 0);
            A.due(when + ": sum(" + key + ")", x.sum(key), 0);
        }
        A.due(when + ": moved(0)", x.moved(0), KeyGroups.NONE);
        A.due(when + ": hot(0)", x.hot(0), KeyGroups.NONE);
        A.due(when + ": out(0, 0)", x.out(0, 0), KeyGroups.NONE);
        A.due(when + ": log(0, 0)", x.log(0, 0), KeyGroups.NONE);
        A.due(when + ": restore(0, 1)", x.restore(0, 1), KeyGroups.UNKNOWN);
        A.due(when + ": step(0)", x.step(0), KeyGroups.NONE);
        A.due(when + ": slack(20)", x.slack(20), 20);
    }

    private static void shapeBounds() {
        KeyGroups x = new KeyGroups();
        int[][] refused = {{1, 1}, {33, 1}, {-8, 1}, {8, 0}, {8, -1}, {8, 9}, {32, 13}, {2, 3},
            {Integer.MIN_VALUE, 1}, {Integer.MAX_VALUE, 12}, {8, Integer.MIN_VALUE}, {8, Integer.MAX_VALUE}};
        for (int[] pair : refused) {
            A.due("shape(" + pair[0] + ", " + pair[1] + ")", x.shape(pair[0], pair[1]), KeyGroups.OUTSIDE);
        }
        A.due("G after refusals", x.told(0), 8);
        A.due("MOST after refusals", x.told(1), 4);
        int[][] taken = {{2, 1}, {2, 2}, {32, 12}, {12, 12}, {8, 1}};
        for (int[] pair : taken) {
            A.due("shape(" + pair[0] + ", " + pair[1] + ")", x.shape(pair[0], pair[1]), 1);
            A.due("G", x.told(0), pair[0]);
            A.due("MOST", x.told(1), pair[1]);
        }
    }

    private static void shapeState() {
        KeyGroups x = new KeyGroups();
        x.row(0, 1);
        A.due("shape behind a row", x.shape(8, 4), KeyGroups.STATE);
        A.due("OUTSIDE is ahead of STATE", x.shape(8, 9), KeyGroups.OUTSIDE);
        x.step(0);
        A.due("shape behind a row that is done", x.shape(8, 4), KeyGroups.STATE);
        KeyGroups y = new KeyGroups();
        y.timer(0, 5);
        A.due("shape with a timer", y.shape(8, 4), KeyGroups.STATE);
        y.tick(5);
        A.due("shape when the timer is gone", y.shape(8, 4), 1);
        y.mark();
        A.due("shape with a mark", y.shape(8, 4), KeyGroups.STATE);
        y.clear();
        A.due("shape when the mark is gone", y.shape(8, 4), 1);
    }

    private static void shapeKeepsTheRest() {
        KeyGroups x = new KeyGroups();
        x.slack(50);
        x.add(0, 1, 9);
        x.timer(1, 5);
        x.tick(6);
        x.scale(4, 0);
        A.due("shape(6, 3)", x.shape(6, 3), 1);
        A.due("tasks", x.told(2), 1);
        for (int group = 0; group < 6; group++) {
            A.due("owner of " + group, x.groupAt(group, 0), 0);
            A.due("epoch of " + group, x.groupAt(group, 1), 1);
        }
        A.due("groupAt(6, 0)", x.groupAt(6, 0), KeyGroups.UNKNOWN);
        A.due("sum(0) stays", x.sum(0), 9);
        A.due("TIME stays", x.told(8), 6);
        A.due("THE LOG stays", x.told(9), 1);
        A.due("scales stay", x.told(11), 1);
        A.due("moved stays", x.moved(0), 2);
        A.due("slack stays", x.slack(0), 50);
    }

    private static void slack() {
        KeyGroups x = new KeyGroups();
        A.due("slack(-1)", x.slack(-1), KeyGroups.OUTSIDE);
        A.due("slack(101)", x.slack(101), KeyGroups.OUTSIDE);
        A.due("slack(0)", x.slack(0), 20);
        A.due("slack(100)", x.slack(100), 0);
        A.due("slack(7)", x.slack(7), 100);
        A.due("slack(7) again", x.slack(7), 7);
    }

    private static void groups() {
        KeyGroups x = new KeyGroups();
        A.due("group(-1)", x.group(-1), KeyGroups.UNKNOWN);
        A.due("group(100)", x.group(100), KeyGroups.UNKNOWN);
        for (int group = 0; group < 8; group++) {
            A.due("group of key " + Answers.KEY_OF[group], x.group(Answers.KEY_OF[group]), group);
        }
        A.due("group(99) of 8", x.group(99), 0);
        x.shape(32, 12);
        int[][] keyAndGroup = {{0, 0}, {8, 27}, {13, 29}, {82, 28}, {92, 31}, {99, 0}};
        for (int[] pair : keyAndGroup) {
            A.due("group(" + pair[0] + ") of 32", x.group(pair[0]), pair[1]);
        }
        x.shape(6, 3);
        A.due("group(1) of 6", x.group(1), 3);
        A.due("group(99) of 6", x.group(99), 4);
    }

    private static void digest() {
        KeyGroups x = new KeyGroups();
        x.shape(2, 2);
        A.due("digest of one task", x.digest(), (17 * 31 + 1) * 31 + 1);
        x.scale(2, 0);
        A.due("digest of two tasks", x.digest(), (17 * 31 + 1) * 31 + 102);
        x.shape(32, 12);
        int d = 17;
        for (int group = 0; group < 32; group++) {
            d = 31 * d + 1;
        }
        A.due("digest of 32 groups", x.digest(), d);
    }

    private static void told() {
        KeyGroups x = new KeyGroups();
        A.due("told(-1)", x.told(-1), KeyGroups.OUTSIDE);
        A.due("told(12)", x.told(12), KeyGroups.OUTSIDE);
        A.due("told(MIN)", x.told(Integer.MIN_VALUE), KeyGroups.OUTSIDE);
        fillAll(x);
        long[] due = {7, 3, 2, 5, 4, 1, 2, 2, 11, 1, 2, 1};
        for (int what = 0; what < due.length; what++) {
            A.due("told(" + what + ")", x.told(what), due[what]);
        }
    }

    /** With 7 groups and seven kinds of things to count, each count is told apart. */
    private static void fillAll(KeyGroups x) {
        x.shape(7, 3);
        x.slack(33);
        for (int i = 0; i < 5; i++) {
            x.row(0, 3);
        }
        x.step(0);
        x.timer(4, 10);
        x.timer(4, 12);
        x.timer(5, 13);
        x.tick(11);
        x.mark();
        x.mark();
        x.scale(2, 0);
    }

    private static void clear() {
        KeyGroups x = new KeyGroups();
        A.due("clear() of a new object", x.clear(), 0);
        fillAll(x);
        A.due("clear()", x.clear(), 5);
        beginning("cleared", x);
        A.due("clear() twice", x.clear(), 0);
        for (int i = 0; i < 3; i++) {
            A.due("mark() after clear()", x.mark(), i);
        }
    }
}
