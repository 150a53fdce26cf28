/** Paragraph 5 and promises 20, 21, 24: three marks, empty and full ones, what comes back and what begins anew. */
public final class MarkEdgesTest {
    private static final Answers A = new Answers("MarkEdgesTest");

    public static void main(String[] args) {
        threeAtMost();
        restoreGivesNoRoom();
        markOfNothing();
        markOfAllRows();
        markOfAllButOneRow();
        markOfAllTimers();
        sumsOfAllKeys();
        countsOfAllKeys();
        rowsComeBackByNumbers();
        timersComeBackInOrder();
        timeComesBack();
        numbersComeBack();
        restoredTwice();
        markOfARestored();
        laterMarksAreApart();
        ownersAreEven();
        allEpochsAreOneMore();
        weightsAreZero();
        outAndLogAreEmpty();
        logBehindARestore();
        linesOfTheNewOwners();
        clearTakesMarksAway();
        A.end();
    }

    /** "MARKS, 3 at most": numbers 0, 1, 2. */
    private static void threeAtMost() {
        KeyGroups x = new KeyGroups();
        A.due("no marks", x.told(10), 0);
        for (int i = 0; i < 3; i++) {
            A.due("restore of the next", x.restore(i, 1), KeyGroups.UNKNOWN);
            A.due("mark()", x.mark(), i);
            A.due("marks", x.told(10), i + 1);
        }
        A.due("mark() of a fourth", x.mark(), KeyGroups.ROOM);
        A.due("mark() of a fourth again", x.mark(), KeyGroups.ROOM);
        A.due("marks", x.told(10), 3);
        A.due("restore of a fourth", x.restore(3, 1), KeyGroups.UNKNOWN);
    }

    private static void restoreGivesNoRoom() {
        KeyGroups x = new KeyGroups();
        for (int i = 0; i < 3; i++) {
            x.mark();
        }
        A.due("restore(0, 1)", x.restore(0, 1), 0);
        A.due("marks stay", x.told(10), 3);
        A.due("mark() of a fourth", x.mark(), KeyGroups.ROOM);
        A.due("restore(2, 1)", x.restore(2, 1), 0);
    }

    /** What an empty mark brings back is nothing at all. */
    private static void markOfNothing() {
        KeyGroups x = new KeyGroups();
        x.mark();
        x.row(0, 5);
        x.row(99, 6);
        x.step(0);
        x.add(50, 1, 9);
        x.timer(1, 2);
        x.timer(1, 9);
        x.tick(3);
        A.due("restore(0, 1)", x.restore(0, 1), 0);
        long[] due = {8, 4, 1, 0, 0, 0, 0, 0, 0, 0, 1, 0};
        for (int what = 0; what < due.length; what++) {
            A.due("told(" + what + ")", x.told(what), due[what]);
        }
        for (int key = 0; key < 100; key++) {
            A.due("counted(" + key + ")", x.counted(key), 0);
            A.due("sum(" + key + ")", x.sum(key), 0);
        }
        A.due("step(0)", x.step(0), KeyGroups.NONE);
        A.due("tick(1000000)", x.tick(1000000), 0);
    }

    private static void markOfAllRows() {
        KeyGroups x = new KeyGroups();
        for (int i = 0; i < 400; i++) {
            x.row(i % 100, i % 3);
        }
        x.mark();
        for (int i = 0; i < 20; i++) {
            x.step(0);
        }
        A.due("restore(0, 1)", x.restore(0, 1), 400);
        A.due("400 wait", x.told(4), 400);
        A.due("400 came", x.told(3), 400);
        A.due("no row more", x.row(0, 1), KeyGroups.ROOM);
        for (int i = 0; i < 50; i++) {
            A.due("step " + i, x.step(0), i);
        }
        A.due("THE OUT", x.told(5), 50);
    }

    private static void markOfAllButOneRow() {
        KeyGroups x = new KeyGroups();
        for (int i = 0; i < 399; i++) {
            x.row(0, 1);
        }
        x.mark();
        A.due("row 399", x.row(1, 1), 0);
        A.due("row 400", x.row(1, 1), KeyGroups.ROOM);
        A.due("restore(0, 4)", x.restore(0, 4), 399);
        A.due("row 399 again", x.row(9, 1), 3);
        A.due("its number", x.taskAt(3, 4), 399);
        A.due("row 400 again", x.row(9, 1), KeyGroups.ROOM);
    }

    private static void markOfAllTimers() {
        KeyGroups x = new KeyGroups();
        for (int i = 0; i < 40; i++) {
            x.timer(i, 40 - i);
        }
        x.mark();
        A.due("tick(10)", x.tick(10), 10);
        A.due("restore(0, 1)", x.restore(0, 1), 0);
        A.due("40 wait", x.told(7), 40);
        A.due("no timer more", x.timer(0, 50), KeyGroups.ROOM);
        A.due("tick(9)", x.tick(9), 9);
        A.due("the latest", x.log(0, 0), 31);
        A.due("timer", x.timer(99, 40), 32);
        A.due("tick(40)", x.tick(40), 32);
        A.due("the latest", x.log(0, 0), 99);
    }

    /** "hold all STATES". */
    private static void sumsOfAllKeys() {
        KeyGroups x = new KeyGroups();
        for (int key = 0; key < 100; key++) {
            x.add(key, 1, 10 * key - 500);
        }
        x.mark();
        for (int key = 0; key < 100; key++) {
            x.add(key, 1, 1);
        }
        x.restore(0, 1);
        for (int key = 0; key < 100; key++) {
            A.due("sum(" + key + ")", x.sum(key), 10 * key - 500);
        }
        for (int key = 0; key < 100; key++) {
            A.due("add to " + key, x.add(key, 2, 1), 1);
        }
        x.restore(0, 1);
        A.due("sum(0) once more", x.sum(0), -500);
        A.due("sum(99) once more", x.sum(99), 490);
    }

    private static void countsOfAllKeys() {
        KeyGroups x = new KeyGroups();
        for (int key = 0; key < 100; key++) {
            x.row(key, 1);
            x.step(0);
        }
        x.mark();
        for (int key : new int[] {0, 49, 50, 99}) {
            x.row(key, 1);
            x.step(0);
            x.timer(key + (key < 50 ? 1 : -1), 3);
        }
        x.tick(3);
        x.restore(0, 1);
        for (int key = 0; key < 100; key++) {
            A.due("counted(" + key + ")", x.counted(key), 1);
            A.due("sum(" + key + ")", x.sum(key), 1);
        }
    }

    /** "rows that wait": with their numbers, keys and values. */
    private static void rowsComeBackByNumbers() {
        KeyGroups x = new KeyGroups();
        x.scale(2, 0);
        int[] keys = {9, 0, 9, 5, 6, 0};
        for (int i = 0; i < keys.length; i++) {
            x.row(keys[i], 100 + i);
        }
        x.step(1);
        x.step(0);
        x.mark();
        x.step(1);
        x.step(1);
        x.row(1, 1);
        A.due("restore(0, 1)", x.restore(0, 1), 4);
        long[][] due = {{2, 9, 202}, {3, 5, 103}, {4, 6, 104}, {5, 0, 206}};
        for (int k = 0; k < due.length; k++) {
            A.due("first of the line", x.taskAt(0, 4), due[k][0]);
            A.due("step(0)", x.step(0), due[k][1]);
            for (int what = 0; what < 3; what++) {
                A.due("out(" + k + ", " + what + ")", x.out(k, what), due[k][what]);
            }
        }
        A.due("step(0)", x.step(0), KeyGroups.NONE);
    }

    /** "timers that wait": those set later than the mark are gone, those that came wait again. */
    private static void timersComeBackInOrder() {
        KeyGroups x = new KeyGroups();
        x.timer(5, 8);
        x.timer(3, 8);
        x.timer(7, 4);
        x.timer(9, 2);
        x.tick(2);
        x.mark();
        x.timer(1, 3);
        x.timer(1, 1000);
        A.due("tick(8)", x.tick(8), 4);
        x.restore(0, 2);
        A.due("three wait", x.told(7), 3);
        x.timer(4, 8);
        A.due("tick(3)", x.tick(3), 0);
        A.due("tick(8)", x.tick(8), 4);
        int[] latest = {5, 4, 3, 7};
        for (int i = 0; i < 4; i++) {
            A.due("KEY of log(" + i + ")", x.log(i, 0), latest[i]);
        }
        A.due("none waits", x.told(7), 0);
    }

    /** "TIME": it goes back, and timers may be set from there on. */
    private static void timeComesBack() {
        KeyGroups x = new KeyGroups();
        x.tick(10);
        x.mark();
        x.tick(1000000);
        A.due("no timer", x.timer(0, 1000000), KeyGroups.OUTSIDE);
        x.restore(0, 1);
        A.due("TIME", x.told(8), 10);
        A.due("tick(9)", x.tick(9), KeyGroups.OUTSIDE);
        A.due("timer at TIME", x.timer(0, 10), KeyGroups.OUTSIDE);
        A.due("timer behind TIME", x.timer(0, 11), 1);
        A.due("tick(11)", x.tick(11), 1);
    }

    /** "how many rows came": the next row has the next number. */
    private static void numbersComeBack() {
        KeyGroups x = new KeyGroups();
        x.row(0, 1);
        x.row(0, 1);
        x.step(0);
        x.step(0);
        x.mark();
        x.row(0, 1);
        x.row(0, 1);
        A.due("restore(0, 1)", x.restore(0, 1), 0);
        A.due("two came", x.told(3), 2);
        x.row(5, 1);
        A.due("the next number", x.taskAt(0, 4), 2);
        A.due("three came", x.told(3), 3);
        A.due("clear()", x.clear(), 3);
    }

    private static void restoredTwice() {
        KeyGroups x = new KeyGroups();
        x.row(0, 5);
        x.timer(0, 5);
        x.mark();
        for (int turn = 0; turn < 5; turn++) {
            x.step(0);
            x.tick(5);
            x.row(3, 3);
            A.due("restore(0, 1)", x.restore(0, 1), 1);
            A.due("timers", x.told(7), 1);
            A.due("TIME", x.told(8), 0);
            A.due("came", x.told(3), 1);
            A.due("epoch", x.groupAt(0, 1), turn + 2);
        }
    }

    private static void markOfARestored() {
        KeyGroups x = new KeyGroups();
        x.row(0, 5);
        x.mark();
        x.step(0);
        x.restore(0, 1);
        x.row(5, 6);
        A.due("mark()", x.mark(), 1);
        x.step(0);
        x.step(0);
        A.due("restore(1, 1)", x.restore(1, 1), 2);
        A.due("restore(0, 1)", x.restore(0, 1), 1);
        A.due("restore(1, 1) again", x.restore(1, 1), 2);
        A.due("step(0)", x.step(0), 0);
        A.due("step(0)", x.step(0), 5);
    }

    private static void laterMarksAreApart() {
        KeyGroups x = new KeyGroups();
        for (int i = 0; i < 3; i++) {
            x.row(i, 10 * i);
            x.add(50, 1, 1);
            x.timer(i, 10 + i);
            x.tick(i);
            x.mark();
        }
        int[] order = {1, 0, 2, 0, 1, 2};
        for (int mark : order) {
            A.due("restore(" + mark + ", 2)", x.restore(mark, 2), mark + 1);
            A.due("came", x.told(3), mark + 1);
            A.due("sum(50)", x.sum(50), mark + 1);
            A.due("timers", x.told(7), mark + 1);
            A.due("TIME", x.told(8), mark);
        }
    }

    /** "OWNERS are EVEN RANGES of n", whatever they were when the mark was made. */
    private static void ownersAreEven() {
        KeyGroups x = new KeyGroups();
        x.scale(4, 1);
        A.dueOwners("before", x, "00000123");
        x.mark();
        String[] due = {"00000000", "00001111", "00111222", "00112233"};
        for (int n = 1; n <= 4; n++) {
            x.restore(0, n);
            A.dueOwners("restored with " + n, x, due[n - 1]);
            A.due("N", x.told(2), n);
        }
        x.restore(0, 5);
        A.dueOwners("BEYOND", x, "00112233");
    }

    /** "all EPOCHS are one more": also of groups whose owner is the same; old ones are refused. */
    private static void allEpochsAreOneMore() {
        KeyGroups x = new KeyGroups();
        x.scale(2, 0);
        x.mark();
        x.restore(0, 2);
        int[] epochs = {2, 2, 2, 2, 3, 3, 3, 3};
        for (int group = 0; group < 8; group++) {
            A.due("epoch of " + group, x.groupAt(group, 1), epochs[group]);
            A.due("the old one", x.add(Answers.KEY_OF[group], epochs[group] - 1, 1), KeyGroups.OLD);
            A.due("the new one", x.add(Answers.KEY_OF[group], epochs[group], 1), 1);
        }
        x.scale(4, 0);
        x.restore(0, 4);
        int[] later = {3, 3, 4, 4, 5, 5, 5, 5};
        for (int group = 0; group < 8; group++) {
            A.due("epoch of " + group + " later", x.groupAt(group, 1), later[group]);
        }
        KeyGroups y = new KeyGroups();
        y.shape(32, 12);
        y.mark();
        y.restore(0, 12);
        for (int group = 0; group < 32; group++) {
            A.due("epoch of " + group + " of 32", y.groupAt(group, 1), 2);
        }
    }

    /** "WEIGHTS 0", though rows wait. */
    private static void weightsAreZero() {
        KeyGroups x = new KeyGroups();
        Answers.weigh(x, 1, 2, 3, 4, 5, 6, 7, 8);
        x.mark();
        A.due("restore(0, 3)", x.restore(0, 3), 36);
        for (int group = 0; group < 8; group++) {
            A.due("weight of " + group, x.groupAt(group, 2), 0);
            A.due("rows of " + group, x.groupAt(group, 3), group + 1);
        }
        A.due("TOTAL", x.told(6), 0);
        A.due("hot(0)", x.hot(0), KeyGroups.NONE);
        A.due("least(1)", x.least(1), 6);
        x.row(0, 1);
        A.due("a row weighs again", x.groupAt(0, 2), 1);
    }

    /** "THE OUT and THE LOG are empty", also what they were when the mark was made. */
    private static void outAndLogAreEmpty() {
        KeyGroups x = new KeyGroups();
        x.row(0, 1);
        x.row(0, 2);
        x.step(0);
        x.timer(0, 1);
        x.tick(1);
        x.mark();
        x.restore(0, 1);
        A.due("THE OUT", x.told(5), 0);
        A.due("out(0, 0)", x.out(0, 0), KeyGroups.NONE);
        A.due("THE LOG", x.told(9), 0);
        A.due("log(0, 0)", x.log(0, 0), KeyGroups.NONE);
        x.step(0);
        A.due("the next row of THE OUT", x.out(0, 0), 1);
        A.due("its SUM", x.out(0, 2), 2);
        A.due("out(1, 0)", x.out(1, 0), KeyGroups.NONE);
    }

    private static void logBehindARestore() {
        KeyGroups x = new KeyGroups();
        x.mark();
        for (int i = 1; i <= 40; i++) {
            x.timer(i, i);
        }
        x.tick(40);
        x.restore(0, 1);
        for (int i = 1; i <= 33; i++) {
            x.timer(i + 50, i);
        }
        for (int t = 1; t <= 33; t++) {
            x.tick(t);
            A.due("kept", x.told(9), Math.min(t, 32));
            A.due("the latest", x.log(0, 0), t + 50);
            A.due("the first that is kept", x.log(Math.min(t, 32) - 1, 0), t == 33 ? 52 : 51);
            A.due("behind it", x.log(Math.min(t, 32), 0), KeyGroups.NONE);
        }
    }

    private static void linesOfTheNewOwners() {
        KeyGroups x = new KeyGroups();
        Answers.weigh(x, 1, 1, 1, 1, 1, 1, 1, 1);
        x.mark();
        A.due("restore(0, 4)", x.restore(0, 4), 8);
        for (int task = 0; task < 4; task++) {
            A.due("length of line " + task, x.taskAt(task, 3), 2);
            A.due("first of line " + task, x.taskAt(task, 4), 2 * task);
            A.due("step(" + task + ")", x.step(task), Answers.KEY_OF[2 * task]);
        }
        A.due("row", x.row(9, 1), 3);
    }

    private static void clearTakesMarksAway() {
        KeyGroups x = new KeyGroups();
        for (int i = 0; i < 3; i++) {
            x.row(i, 1);
            x.mark();
        }
        A.due("clear()", x.clear(), 3);
        A.due("no marks", x.told(10), 0);
        for (int mark = 0; mark < 3; mark++) {
            A.due("restore(" + mark + ", 1)", x.restore(mark, 1), KeyGroups.UNKNOWN);
        }
        A.due("shape(4, 4)", x.shape(4, 4), 1);
        for (int i = 0; i < 3; i++) {
            A.due("mark()", x.mark(), i);
        }
        A.due("mark() of a fourth", x.mark(), KeyGroups.ROOM);
        A.due("a mark of the time behind", x.restore(2, 4), 0);
        A.due("none came", x.told(3), 0);
    }
}
