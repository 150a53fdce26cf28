/** Paragraph 2 and promises 5 to 7, 12 to 14, 18: rows from the first to the last, lines, states, THE OUT. */
public final class RowEdgesTest {
    private static final Answers A = new Answers("RowEdgesTest");

    public static void main(String[] args) {
        numbersFromZeroOn();
        refusedRowsHaveNoNumber();
        fourHundredAtMost();
        theLastNumber();
        stepsGiveNoRoom();
        weightOfItsGroupAlone();
        linesByNumbers();
        linesFromOtherLines();
        emptyLines();
        statesOfTheirKeysAlone();
        sumsOfManyAdds();
        outsInOrder();
        outOfManyRows();
        sumThen();
        epochOfItsGroup();
        theLastOfAllCalls();
        A.end();
    }

    /** "ROWS are numbered 0, 1, .. as they come". */
    private static void numbersFromZeroOn() {
        KeyGroups x = new KeyGroups();
        A.due("none came", x.told(3), 0);
        x.row(7, 1);
        A.due("one came", x.told(3), 1);
        A.due("the first number", x.taskAt(0, 4), 0);
        x.row(7, 1);
        x.step(0);
        A.due("the second number", x.taskAt(0, 4), 1);
        x.step(0);
        x.row(7, 1);
        A.due("a number is not given twice", x.taskAt(0, 4), 2);
    }

    private static void refusedRowsHaveNoNumber() {
        KeyGroups x = new KeyGroups();
        x.row(100, 1);
        x.row(0, 1001);
        x.row(-1, 1);
        x.row(0, -1001);
        x.row(0, 1);
        A.due("the first number behind refused ones", x.taskAt(0, 4), 0);
        A.due("rows that came", x.told(3), 1);
        A.due("rows that wait", x.told(4), 1);
        A.due("TOTAL", x.told(6), 1);
    }

    private static KeyGroups withRows(int rows) {
        KeyGroups x = new KeyGroups();
        for (int i = 0; i < rows; i++) {
            x.row(i % 100, 1);
        }
        return x;
    }

    /** "400 at most". */
    private static void fourHundredAtMost() {
        KeyGroups x = withRows(399);
        A.due("399 came", x.told(3), 399);
        A.due("row 399", x.row(0, 1), 0);
        A.due("row 400", x.row(0, 1), KeyGroups.ROOM);
        A.due("row 400 again", x.row(99, -1000), KeyGroups.ROOM);
        A.due("400 came", x.told(3), 400);
        A.due("400 wait", x.told(4), 400);
        A.due("400 in the line", x.taskAt(0, 3), 400);
        A.due("the first of them", x.taskAt(0, 4), 0);
        A.due("TOTAL", x.told(6), 400);
        A.due("clear()", x.clear(), 400);
        A.due("a row behind a clear", x.row(0, 1), 0);
        A.due("its number", x.taskAt(0, 4), 0);
    }

    private static void theLastNumber() {
        KeyGroups x = new KeyGroups();
        x.scale(2, 0);
        for (int i = 0; i < 399; i++) {
            x.row(0, 1);
        }
        A.due("row 399", x.row(9, 5), 1);
        A.due("its number in the line", x.taskAt(1, 4), 399);
        A.due("rows of TASK 0", x.taskAt(0, 3), 399);
        A.due("rows of TASK 1", x.taskAt(1, 3), 1);
        A.due("step(1)", x.step(1), 9);
        A.due("its number in THE OUT", x.out(0, 0), 399);
        A.due("step(1) again", x.step(1), KeyGroups.NONE);
        A.due("rows of group 0", x.groupAt(0, 3), 399);
    }

    private static void stepsGiveNoRoom() {
        KeyGroups x = withRows(400);
        for (int i = 0; i < 100; i++) {
            A.due("step " + i, x.step(0), i);
        }
        A.due("300 wait", x.told(4), 300);
        A.due("a row that was done counts", x.row(0, 1), KeyGroups.ROOM);
        A.due("400 came", x.told(3), 400);
    }

    /** "the WEIGHT of its GROUP is one more", which a step leaves. */
    private static void weightOfItsGroupAlone() {
        KeyGroups x = new KeyGroups();
        for (int group = 0; group < 8; group++) {
            x.row(Answers.KEY_OF[group], 1000);
            for (int other = 0; other < 8; other++) {
                A.due("weight of " + other, x.groupAt(other, 2), other <= group ? 1 : 0);
                A.due("rows of " + other, x.groupAt(other, 3), other <= group ? 1 : 0);
            }
        }
        x.step(0);
        A.due("weight behind a step", x.groupAt(0, 2), 1);
        A.due("rows behind a step", x.groupAt(0, 3), 0);
        x.row(0, -1000);
        A.due("weight of a second row", x.groupAt(0, 2), 2);
    }

    /** "a LINE are all that wait there, by numbers". */
    private static void linesByNumbers() {
        KeyGroups x = new KeyGroups();
        x.scale(4, 0);
        int[] keys = {9, 0, 2, 5, 9, 3, 0};
        int[] tasks = {3, 0, 3, 0, 3, 1, 0};
        for (int i = 0; i < keys.length; i++) {
            A.due("row " + i, x.row(keys[i], i), tasks[i]);
        }
        int[] lengths = {3, 1, 0, 3};
        int[] firsts = {1, 5, KeyGroups.NONE, 0};
        for (int task = 0; task < 4; task++) {
            A.due("length of line " + task, x.taskAt(task, 3), lengths[task]);
            A.due("first of line " + task, x.taskAt(task, 4), firsts[task]);
        }
        int[][] steps = {{3, 9}, {3, 2}, {0, 0}, {3, 9}, {0, 5}, {1, 3}, {0, 0}};
        int[] numbers = {0, 2, 1, 4, 3, 5, 6};
        for (int k = 0; k < steps.length; k++) {
            A.due("step(" + steps[k][0] + ")", x.step(steps[k][0]), steps[k][1]);
            A.due("its number", x.out(k, 0), numbers[k]);
        }
    }

    /** "also those that came from another LINE with their GROUP": they stand by their numbers, not at the end. */
    private static void linesFromOtherLines() {
        KeyGroups x = new KeyGroups();
        x.scale(2, 0);
        x.row(6, 1);
        x.row(0, 2);
        x.row(9, 3);
        x.row(1, 4);
        x.row(6, 5);
        x.scale(4, 0);
        int[][] due = {{1, 1}, {1, 3}, {2, 0}, {1, 2}};
        for (int task = 0; task < 4; task++) {
            A.due("length of line " + task, x.taskAt(task, 3), due[task][0]);
            A.due("first of line " + task, x.taskAt(task, 4), due[task][1]);
        }
        x.scale(1, 0);
        int[] keys = {6, 0, 9, 1, 6};
        for (int i = 0; i < keys.length; i++) {
            A.due("first of all", x.taskAt(0, 4), i);
            A.due("step(0)", x.step(0), keys[i]);
        }
        A.due("first of none", x.taskAt(0, 4), KeyGroups.NONE);
    }

    /** "NONE: nothing waits there", though rows wait elsewhere. */
    private static void emptyLines() {
        KeyGroups x = new KeyGroups();
        A.due("step before a row", x.step(0), KeyGroups.NONE);
        x.scale(2, 0);
        x.row(9, 1);
        A.due("step(0)", x.step(0), KeyGroups.NONE);
        A.due("length of line 0", x.taskAt(0, 3), 0);
        A.due("first of line 0", x.taskAt(0, 4), KeyGroups.NONE);
        A.due("step(1)", x.step(1), 9);
        A.due("step(1) again", x.step(1), KeyGroups.NONE);
        A.due("none wait", x.told(4), 0);
        A.due("one came", x.told(3), 1);
        A.due("one is in THE OUT", x.told(5), 1);
    }

    /** "COUNT one more, SUM so much more (64 bits; both 0 at first)". */
    private static void statesOfTheirKeysAlone() {
        KeyGroups x = new KeyGroups();
        for (int key = 0; key < 100; key++) {
            A.due("counted(" + key + ") at first", x.counted(key), 0);
            A.due("sum(" + key + ") at first", x.sum(key), 0);
        }
        KeyGroups y = new KeyGroups();
        for (int key = 0; key < 100; key++) {
            y.row(key, key - 50);
        }
        for (int key = 0; key < 100; key++) {
            A.due("step", y.step(0), key);
        }
        for (int key = 0; key < 100; key++) {
            A.due("counted(" + key + ")", y.counted(key), 1);
            A.due("sum(" + key + ")", y.sum(key), key - 50);
        }
    }

    private static void sumsOfManyAdds() {
        KeyGroups x = new KeyGroups();
        for (int i = 0; i < 250; i++) {
            x.add(0, 1, 1000);
            x.add(99, 1, -1000);
        }
        A.due("sum(0)", x.sum(0), 250000);
        A.due("sum(99)", x.sum(99), -250000);
        A.due("adds count nothing", x.counted(0), 0);
        A.due("adds are no rows", x.told(3), 0);
        x.add(0, 1, 0);
        A.due("an add of 0", x.sum(0), 250000);
    }

    /** "the row, its KEY, its SUM then are put behind THE OUT". */
    private static void outsInOrder() {
        KeyGroups x = new KeyGroups();
        x.scale(2, 0);
        x.row(0, -1000);
        x.row(9, 1000);
        x.row(0, 1);
        x.step(1);
        A.due("one", x.told(5), 1);
        A.due("out(1, 0)", x.out(1, 0), KeyGroups.NONE);
        x.step(0);
        x.step(0);
        long[][] due = {{1, 9, 1000}, {0, 0, -1000}, {2, 0, -999}};
        for (int k = 0; k < due.length; k++) {
            for (int what = 0; what < 3; what++) {
                A.due("out(" + k + ", " + what + ")", x.out(k, what), due[k][what]);
            }
        }
        A.due("three", x.told(5), 3);
    }

    private static void outOfManyRows() {
        KeyGroups x = withRows(250);
        for (int i = 0; i < 250; i++) {
            x.step(0);
        }
        A.due("250 are in THE OUT", x.told(5), 250);
        A.due("the first number", x.out(0, 0), 0);
        A.due("the last number", x.out(249, 0), 249);
        A.due("the last KEY", x.out(249, 1), 49);
        A.due("the last SUM", x.out(249, 2), 3);
        A.due("behind the last", x.out(250, 0), KeyGroups.NONE);
        A.due("none wait", x.told(4), 0);
    }

    private static void sumThen() {
        KeyGroups x = new KeyGroups();
        x.row(4, 10);
        x.row(4, 20);
        x.add(4, 1, 100);
        x.step(0);
        x.add(4, 1, 100);
        A.due("the SUM then", x.out(0, 2), 110);
        x.step(0);
        x.timer(4, 1);
        x.tick(1);
        A.due("the first SUM stays", x.out(0, 2), 110);
        A.due("the second SUM stays", x.out(1, 2), 230);
        A.due("the SUM now", x.sum(4), 0);
    }

    /** "OLD: that is another one": lower, higher, or that of another group. */
    private static void epochOfItsGroup() {
        KeyGroups x = new KeyGroups();
        x.scale(2, 0);
        x.scale(4, 0);
        int[] epochs = {1, 1, 2, 2, 3, 3, 3, 3};
        for (int group = 0; group < 8; group++) {
            for (int epoch = 0; epoch < 5; epoch++) {
                int due = epoch == epochs[group] ? 1 : KeyGroups.OLD;
                A.due("add to group " + group + " by " + epoch, x.add(Answers.KEY_OF[group], epoch, 3), due);
            }
            A.due("one add was taken", x.sum(Answers.KEY_OF[group]), 3);
        }
        for (int epoch : new int[] {Integer.MIN_VALUE, -1, Integer.MAX_VALUE}) {
            A.due("add by " + epoch, x.add(0, epoch, 3), KeyGroups.OLD);
        }
    }

    /** "at most 512 calls": the last of them is still answered as promised. */
    private static void theLastOfAllCalls() {
        KeyGroups x = withRows(400);
        for (int i = 0; i < 111; i++) {
            x.step(0);
        }
        A.due("call 512", x.told(4), 289);
        KeyGroups y = withRows(400);
        for (int i = 0; i < 111; i++) {
            y.step(0);
        }
        A.due("call 512", y.step(0), 11);
    }
}
