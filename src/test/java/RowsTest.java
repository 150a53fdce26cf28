/** Promises 5 to 7, 12 to 14 and 18: row, step, add, taskAt, counted, sum, out. */
public final class RowsTest {
    private static final Answers A = new Answers("RowsTest");

    public static void main(String[] args) {
        refusedRows();
        rowsOfTasks();
        roomForRows();
        stepFarBehind();
        linesGoWithGroups();
        stepsAndStates();
        adds();
        tasks();
        outs();
        A.end();
    }

    private static void refusedRows() {
        KeyGroups x = new KeyGroups();
        A.due("row(-1, 0)", x.row(-1, 0), KeyGroups.UNKNOWN);
        A.due("row(100, 0)", x.row(100, 0), KeyGroups.UNKNOWN);
        A.due("row(100, 1001)", x.row(100, 1001), KeyGroups.UNKNOWN);
        A.due("row(0, 1001)", x.row(0, 1001), KeyGroups.OUTSIDE);
        A.due("row(0, -1001)", x.row(0, -1001), KeyGroups.OUTSIDE);
        A.due("row(0, MIN)", x.row(0, Integer.MIN_VALUE), KeyGroups.OUTSIDE);
        A.due("none came", x.told(3), 0);
        A.due("no weight", x.told(6), 0);
        A.due("row(99, 1000)", x.row(99, 1000), 0);
        A.due("row(0, -1000)", x.row(0, -1000), 0);
        A.due("two came", x.told(3), 2);
    }

    private static void rowsOfTasks() {
        KeyGroups x = new KeyGroups();
        x.scale(4, 0);
        for (int group = 0; group < 8; group++) {
            A.due("row of group " + group, x.row(Answers.KEY_OF[group], 1), group / 2);
            A.due("its weight", x.groupAt(group, 2), 1);
            A.due("its rows", x.groupAt(group, 3), 1);
        }
    }

    private static void roomForRows() {
        KeyGroups x = new KeyGroups();
        for (int i = 0; i < 400; i++) {
            A.due("row " + i, x.row(i % 100, 1), 0);
        }
        A.due("row 400", x.row(0, 1), KeyGroups.ROOM);
        A.due("UNKNOWN is ahead of ROOM", x.row(100, 1), KeyGroups.UNKNOWN);
        A.due("OUTSIDE is ahead of ROOM", x.row(0, 1001), KeyGroups.OUTSIDE);
        A.due("rows in the line", x.taskAt(0, 3), 400);
        for (int i = 0; i < 50; i++) {
            A.due("step " + i, x.step(0), i);
        }
        A.due("steps give no room back", x.row(0, 1), KeyGroups.ROOM);
        A.due("weight", x.told(6), 400);
    }

    private static void stepFarBehind() {
        KeyGroups x = new KeyGroups();
        x.scale(2, 0);
        Answers.weigh(x, 300, 0, 0, 0, 0, 0, 0, 100);
        A.due("first of 1", x.taskAt(1, 4), 300);
        A.due("step(1)", x.step(1), 9);
        A.due("step(1)", x.step(1), 9);
        A.due("its number", x.out(1, 0), 301);
        A.due("line of 0", x.taskAt(0, 3), 300);
        A.due("line of 1", x.taskAt(1, 3), 98);
    }

    private static void linesGoWithGroups() {
        KeyGroups x = new KeyGroups();
        x.scale(2, 0);
        x.row(9, 1);
        x.row(0, 2);
        x.row(6, 3);
        x.row(0, 4);
        A.due("line of 1", x.taskAt(1, 3), 2);
        A.due("first of 1", x.taskAt(1, 4), 0);
        A.due("first of 0", x.taskAt(0, 4), 1);
        x.scale(1, 0);
        A.due("line of all", x.taskAt(0, 3), 4);
        int[] byNumber = {9, 0, 6, 0};
        for (int key : byNumber) {
            A.due("step(0) by numbers", x.step(0), key);
        }
        A.due("step(0) of none", x.step(0), KeyGroups.NONE);
    }

    private static void stepsAndStates() {
        KeyGroups x = new KeyGroups();
        A.due("step(-1)", x.step(-1), KeyGroups.UNKNOWN);
        A.due("step(1)", x.step(1), KeyGroups.UNKNOWN);
        A.due("step(0)", x.step(0), KeyGroups.NONE);
        x.row(7, 10);
        x.row(8, 20);
        x.row(7, -30);
        A.due("waiting is not counted", x.counted(7), 0);
        A.due("step", x.step(0), 7);
        A.due("step", x.step(0), 8);
        A.due("step", x.step(0), 7);
        A.due("counted(7)", x.counted(7), 2);
        A.due("sum(7)", x.sum(7), -20);
        A.due("counted(8)", x.counted(8), 1);
        A.due("sum(8)", x.sum(8), 20);
        A.due("weights stay", x.told(6), 3);
        A.due("counted(-1)", x.counted(-1), KeyGroups.UNKNOWN);
        A.due("counted(100)", x.counted(100), KeyGroups.UNKNOWN);
        A.due("counted(99)", x.counted(99), 0);
        A.due("sum(-1)", x.sum(-1), 0);
        A.due("sum(100)", x.sum(100), 0);
        A.due("sum(99)", x.sum(99), 0);
    }

    private static void adds() {
        KeyGroups x = new KeyGroups();
        A.due("add(-1, 1, 0)", x.add(-1, 1, 0), KeyGroups.UNKNOWN);
        A.due("add(100, 2, 1001)", x.add(100, 2, 1001), KeyGroups.UNKNOWN);
        A.due("add(0, 2, 1001)", x.add(0, 2, 1001), KeyGroups.OUTSIDE);
        A.due("add(0, 1, -1001)", x.add(0, 1, -1001), KeyGroups.OUTSIDE);
        A.due("add(0, 0, 1)", x.add(0, 0, 1), KeyGroups.OLD);
        A.due("add(0, 2, 1)", x.add(0, 2, 1), KeyGroups.OLD);
        A.due("nothing added", x.sum(0), 0);
        A.due("add(0, 1, 1000)", x.add(0, 1, 1000), 1);
        A.due("add(99, 1, -1000)", x.add(99, 1, -1000), 1);
        A.due("sum(0)", x.sum(0), 1000);
        A.due("sum(99)", x.sum(99), -1000);
        A.due("adds are not counted", x.counted(0), 0);
        A.due("adds have no weight", x.told(6), 0);
        A.due("adds are not in THE OUT", x.told(5), 0);
        x.scale(2, 0);
        A.due("add by the old owner", x.add(9, 1, 5), KeyGroups.OLD);
        A.due("add by the new owner", x.add(9, 2, 5), 1);
        A.due("add by an owner that stayed", x.add(0, 1, 5), 1);
        A.due("sum(9)", x.sum(9), 5);
    }

    private static void tasks() {
        KeyGroups x = new KeyGroups();
        x.scale(3, 0);
        Answers.weigh(x, 1, 2, 0, 0, 0, 3, 0, 1);
        int[][] due = {{0, 2, 3, 3, 0}, {2, 3, 0, 0, KeyGroups.NONE}, {5, 3, 4, 4, 3}};
        for (int task = 0; task < 3; task++) {
            for (int what = 0; what < 5; what++) {
                A.due("taskAt(" + task + ", " + what + ")", x.taskAt(task, what), due[task][what]);
            }
        }
        A.due("taskAt(-1, 0)", x.taskAt(-1, 0), KeyGroups.UNKNOWN);
        A.due("taskAt(3, 0)", x.taskAt(3, 0), KeyGroups.UNKNOWN);
        A.due("taskAt(3, 9)", x.taskAt(3, 9), KeyGroups.UNKNOWN);
        A.due("taskAt(0, -1)", x.taskAt(0, -1), KeyGroups.OUTSIDE);
        A.due("taskAt(0, 5)", x.taskAt(0, 5), KeyGroups.OUTSIDE);
        x.step(2);
        A.due("weight stays behind a step", x.taskAt(2, 2), 4);
        A.due("line is shorter", x.taskAt(2, 3), 3);
        A.due("first is the next", x.taskAt(2, 4), 4);
    }

    private static void outs() {
        KeyGroups x = new KeyGroups();
        x.scale(2, 0);
        x.row(0, 5);
        x.row(9, 7);
        x.row(9, 8);
        x.step(1);
        x.step(1);
        x.add(0, 1, 100);
        x.step(0);
        long[][] due = {{1, 9, 7}, {2, 9, 15}, {0, 0, 105}};
        for (int k = 0; k < 3; k++) {
            for (int what = 0; what < 3; what++) {
                A.due("out(" + k + ", " + what + ")", x.out(k, what), due[k][what]);
            }
        }
        A.due("out(3, 0)", x.out(3, 0), KeyGroups.NONE);
        A.due("out(-1, 0)", x.out(-1, 0), KeyGroups.NONE);
        A.due("out(0, 3)", x.out(0, 3), KeyGroups.OUTSIDE);
        A.due("out(0, -1)", x.out(0, -1), KeyGroups.OUTSIDE);
        A.due("OUTSIDE is ahead of NONE", x.out(3, 3), KeyGroups.OUTSIDE);
        x.scale(1, 0);
        A.due("a scale keeps THE OUT", x.told(5), 3);
    }
}
