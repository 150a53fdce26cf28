import java.math.BigInteger;

/** Paragraph 1 and promises 1, 2, 4, 22: hashes that wrap, ranges that are cut, digests that wrap. */
public final class GroupEdgesTest {
    private static final Answers A = new Answers("GroupEdgesTest");
    private static final BigInteger WRAP = BigInteger.TWO.pow(32);

    /** With 31 groups a hash of more than 32 bits, or one that keeps its sign, shows in many keys. */
    private static final int[] GROUP_OF_31 = {
        0, 27, 23, 4, 16, 17, 4, 1, 2, 19, 3, 14, 5, 30, 2, 3, 5, 12, 7, 12, 7, 7, 24, 26, 11,
        10, 29, 10, 1, 19, 6, 9, 11, 30, 24, 5, 15, 10, 20, 28, 15, 23, 11, 29, 13, 12, 22, 9, 22, 8,
        21, 13, 27, 9, 21, 27, 2, 5, 4, 27, 8, 28, 19, 21, 22, 1, 30, 28, 17, 18, 11, 17, 30, 2, 17,
        18, 9, 8, 26, 21, 30, 3, 15, 25, 23, 18, 27, 30, 27, 28, 20, 6, 14, 10, 18, 15, 10, 22, 16, 24};

    public static void main(String[] args) {
        numbersAtFirst();
        hashWraps();
        everyKeyOfEveryG();
        groupsAtFirst();
        evenRangesAreCut();
        everyTaskHasOneAtLeast();
        shapeGivesAllToOneTask();
        digestOfTheFewest();
        digestWraps();
        objectsAreApart();
        A.end();
    }

    /** "8, 1 and 4 at first"; "No rows, timers, marks; one TASK." */
    private static void numbersAtFirst() {
        KeyGroups x = new KeyGroups();
        long[] due = {8, 4, 1, 0, 0, 0, 0, 0, 0, 0, 0, 0};
        for (int what = 0; what < due.length; what++) {
            A.due("told(" + what + ") at first", x.told(what), due[what]);
        }
        A.due("first of TASK 0", x.taskAt(0, 0), 0);
        A.due("groups of TASK 0", x.taskAt(0, 1), 8);
        A.due("MOST is taken", x.scale(4, 0), 6);
    }

    /** "wrapping in 32 bits", "without sign". */
    private static void hashWraps() {
        KeyGroups x = new KeyGroups();
        x.shape(31, 1);
        for (int key = 0; key < 100; key++) {
            A.due("group(" + key + ") of 31", x.group(key), GROUP_OF_31[key]);
        }
    }

    private static int dueGroup(int key, int groups) {
        BigInteger k = BigInteger.valueOf(key);
        BigInteger x = k.multiply(BigInteger.valueOf(0x9E3779B1L)).add(k.multiply(BigInteger.valueOf(7))).mod(WRAP);
        BigInteger y = x.xor(x.shiftRight(15));
        return y.shiftRight(1).mod(BigInteger.valueOf(groups)).intValue();
    }

    private static void everyKeyOfEveryG() {
        for (int groups = 2; groups <= 32; groups++) {
            KeyGroups x = new KeyGroups();
            x.shape(groups, 1);
            for (int key = 0; key < 100; key++) {
                A.due("group(" + key + ") of " + groups, x.group(key), dueGroup(key, groups));
            }
        }
    }

    /** "an EPOCH (1 at first), a WEIGHT (0 at first)", and TASK 0 as the OWNER, when it is alone. */
    private static void groupsAtFirst() {
        for (int groups : new int[] {2, 32}) {
            KeyGroups x = new KeyGroups();
            x.shape(groups, 2);
            for (int group = 0; group < groups; group++) {
                A.due("owner of " + group, x.groupAt(group, 0), 0);
                A.due("epoch of " + group, x.groupAt(group, 1), 1);
                A.due("weight of " + group, x.groupAt(group, 2), 0);
                A.due("rows of " + group, x.groupAt(group, 3), 0);
            }
        }
    }

    /** "from i G / n (cut) to (i + 1) G / n (cut) less 1", for every G and n, scaled and restored. */
    private static void evenRangesAreCut() {
        for (int groups = 2; groups <= 32; groups++) {
            int most = Math.min(groups, 12);
            for (int n = 1; n <= most; n++) {
                KeyGroups scaled = new KeyGroups();
                scaled.shape(groups, most);
                A.due("scale(" + n + ", 0) of " + groups, scaled.scale(n, 0), groups - groups / n);
                dueEven(scaled, groups, n);
                KeyGroups restored = new KeyGroups();
                restored.shape(groups, most);
                restored.scale(most, 1);
                restored.mark();
                restored.restore(0, n);
                dueEven(restored, groups, n);
            }
        }
    }

    private static void dueEven(KeyGroups x, int groups, int n) {
        for (int task = 0; task < n; task++) {
            int first = task * groups / n;
            int end = (task + 1) * groups / n;
            A.due("first of " + task + " of " + n, x.taskAt(task, 0), first);
            A.due("groups of " + task + " of " + n, x.taskAt(task, 1), end - first);
            A.due("owner of the first", x.groupAt(first, 0), task);
            A.due("owner of the last", x.groupAt(end - 1, 0), task);
        }
    }

    /** "each one at least": also with as many tasks as groups, and when TASK 0 would rather keep all. */
    private static void everyTaskHasOneAtLeast() {
        for (int rule = 0; rule < 2; rule++) {
            KeyGroups two = new KeyGroups();
            two.shape(2, 2);
            A.due("scale of 2 to 2", two.scale(2, rule), 1);
            A.dueOwners("2 tasks of 2", two, "01");
            KeyGroups twelve = new KeyGroups();
            twelve.shape(12, 12);
            A.due("scale of 12 to 12", twelve.scale(12, rule), 11);
            A.dueOwners("12 tasks of 12", twelve, "0123456789ab");
        }
        KeyGroups x = new KeyGroups();
        x.shape(32, 12);
        x.scale(12, 1);
        A.dueOwners("12 tasks of 32", x, "000000000000000000000123456789ab");
    }

    /** Promise 2: "G and MOST; one TASK has all; EPOCHS are 1". */
    private static void shapeGivesAllToOneTask() {
        KeyGroups x = new KeyGroups();
        x.shape(32, 12);
        x.scale(12, 0);
        x.scale(3, 0);
        A.due("shape(32, 12)", x.shape(32, 12), 1);
        A.due("N", x.told(2), 1);
        A.due("groups of TASK 0", x.taskAt(0, 1), 32);
        A.due("no TASK 1", x.taskAt(1, 0), KeyGroups.UNKNOWN);
        for (int group = 0; group < 32; group++) {
            A.due("owner of " + group, x.groupAt(group, 0), 0);
            A.due("epoch of " + group, x.groupAt(group, 1), 1);
        }
        A.due("fewer", x.shape(2, 1), 1);
        A.due("groups of TASK 0", x.taskAt(0, 1), 2);
        A.due("more again", x.shape(12, 12), 1);
        for (int group = 0; group < 12; group++) {
            A.due("epoch of " + group + " again", x.groupAt(group, 1), 1);
        }
    }

    private static void digestOfTheFewest() {
        KeyGroups x = new KeyGroups();
        x.shape(2, 2);
        A.due("digest", x.digest(), 16369);
        x.scale(2, 0);
        A.due("digest of 2 tasks", x.digest(), 16470);
        x.scale(1, 0);
        A.due("digest of 1 task again", x.digest(), 16371);
    }

    /** "wrapping in 32 bits": with 6 groups and more it does. */
    private static void digestWraps() {
        for (int groups : new int[] {5, 6, 8, 31, 32}) {
            KeyGroups x = new KeyGroups();
            x.shape(groups, 4);
            A.due("digest of 1", x.digest(), dueDigest(x, groups));
            x.scale(4, 0);
            A.due("digest of 4", x.digest(), dueDigest(x, groups));
            x.scale(3, 1);
            x.mark();
            x.restore(0, 2);
            A.due("digest of 2", x.digest(), dueDigest(x, groups));
        }
        A.due("digest of a new object", new KeyGroups().digest(), 1997942673);
    }

    private static int dueDigest(KeyGroups x, int groups) {
        BigInteger d = BigInteger.valueOf(17);
        for (int group = 0; group < groups; group++) {
            int more = 100 * x.groupAt(group, 0) + x.groupAt(group, 1);
            d = d.multiply(BigInteger.valueOf(31)).add(BigInteger.valueOf(more));
        }
        return d.intValue();
    }

    /** What one object is asked shows in no other. */
    private static void objectsAreApart() {
        new Twins(A, "a new object", KeyGroups::new).noTrace("a call of another object", 1, x -> {
            KeyGroups other = new KeyGroups();
            other.shape(6, 3);
            other.slack(70);
            other.scale(3, 0);
            other.row(0, 5);
            other.row(0, 5);
            other.step(0);
            other.timer(0, 3);
            other.tick(3);
            other.timer(0, 9);
            other.mark();
            return other.scale(1, 1) >= 0 ? 1 : 0;
        });
    }
}
