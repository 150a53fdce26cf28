/** Promises 20 and 21: mark, restore. */
public final class MarksTest {
    private static final Answers A = new Answers("MarksTest");

    public static void main(String[] args) {
        refused();
        allComesBack();
        restIsAsPromised();
        rowNumbersAreGivenAgain();
        marksStay();
        A.end();
    }

    private static void refused() {
        KeyGroups x = new KeyGroups();
        A.due("restore(0, 1)", x.restore(0, 1), KeyGroups.UNKNOWN);
        A.due("mark()", x.mark(), 0);
        A.due("mark()", x.mark(), 1);
        A.due("restore(2, 1)", x.restore(2, 1), KeyGroups.UNKNOWN);
        A.due("mark()", x.mark(), 2);
        A.due("mark() of a fourth", x.mark(), KeyGroups.ROOM);
        A.due("marks", x.told(10), 3);
        A.due("restore(-1, 1)", x.restore(-1, 1), KeyGroups.UNKNOWN);
        A.due("restore(3, 1)", x.restore(3, 1), KeyGroups.UNKNOWN);
        A.due("UNKNOWN is ahead of OUTSIDE", x.restore(3, 0), KeyGroups.UNKNOWN);
        A.due("UNKNOWN is ahead of BEYOND", x.restore(3, 5), KeyGroups.UNKNOWN);
        A.due("restore(0, 0)", x.restore(0, 0), KeyGroups.OUTSIDE);
        A.due("restore(0, -5)", x.restore(0, -5), KeyGroups.OUTSIDE);
        A.due("restore(0, 5)", x.restore(0, 5), KeyGroups.BEYOND);
        A.due("epoch behind refusals", x.groupAt(0, 1), 1);
        A.due("restore(2, 4)", x.restore(2, 4), 0);
        x.clear();
        A.due("restore of a mark that is cleared", x.restore(0, 1), KeyGroups.UNKNOWN);
    }

    private static KeyGroups withAll() {
        KeyGroups x = new KeyGroups();
        x.slack(40);
        x.scale(2, 0);
        x.row(0, 10);
        x.row(9, 20);
        x.row(9, 30);
        x.step(1);
        x.timer(9, 5);
        x.timer(3, 9);
        x.timer(6, 12);
        x.tick(5);
        x.add(7, 1, 70);
        return x;
    }

    private static void allComesBack() {
        KeyGroups x = withAll();
        x.mark();
        x.step(0);
        x.step(1);
        x.row(4, 1);
        x.add(7, 1, 1);
        x.timer(8, 6);
        x.tick(9);
        A.due("restore(0, 3)", x.restore(0, 3), 2);
        A.due("rows that came", x.told(3), 3);
        A.due("rows that wait", x.told(4), 2);
        A.due("timers that wait", x.told(7), 2);
        A.due("TIME", x.told(8), 5);
        A.due("counted(0)", x.counted(0), 0);
        A.due("sum(0)", x.sum(0), 0);
        A.due("counted(9)", x.counted(9), 0);
        A.due("sum(7)", x.sum(7), 70);
        A.due("first of 0", x.taskAt(0, 4), 0);
        A.due("first of 2", x.taskAt(2, 4), 2);
        A.due("step(0)", x.step(0), 0);
        A.due("step(2)", x.step(2), 9);
        A.due("sum(0) then", x.sum(0), 10);
        A.due("sum(9) then", x.sum(9), 30);
        A.due("tick(8)", x.tick(8), 0);
        A.due("tick(9)", x.tick(9), 1);
        A.due("its KEY", x.log(0, 0), 3);
        A.due("tick(11)", x.tick(11), 0);
        A.due("tick(12)", x.tick(12), 1);
        A.due("its KEY", x.log(0, 0), 6);
    }

    private static void restIsAsPromised() {
        KeyGroups x = withAll();
        x.mark();
        A.due("THE OUT before", x.told(5), 1);
        A.due("THE LOG before", x.told(9), 1);
        A.due("TOTAL before", x.told(6), 3);
        x.restore(0, 2);
        A.dueOwners("owners", x, "00001111");
        for (int group = 0; group < 8; group++) {
            A.due("epoch of " + group, x.groupAt(group, 1), group < 4 ? 2 : 3);
            A.due("weight of " + group, x.groupAt(group, 2), 0);
        }
        A.due("THE OUT", x.told(5), 0);
        A.due("out(0, 0)", x.out(0, 0), KeyGroups.NONE);
        A.due("THE LOG", x.told(9), 0);
        A.due("log(0, 0)", x.log(0, 0), KeyGroups.NONE);
        A.due("the old owner is refused", x.add(0, 1, 1), KeyGroups.OLD);
        A.due("the new owner is not", x.add(0, 2, 1), 1);
        A.due("scales stay", x.told(11), 1);
        A.due("moved stays", x.moved(0), 4);
        A.due("slack stays", x.slack(40), 40);
        x.restore(0, 4);
        A.dueOwners("owners of 4", x, "00112233");
        A.due("N", x.told(2), 4);
        A.due("epoch once more", x.groupAt(0, 1), 3);
    }

    private static void rowNumbersAreGivenAgain() {
        KeyGroups x = new KeyGroups();
        x.row(0, 1);
        x.mark();
        x.row(5, 2);
        x.row(5, 3);
        x.mark();
        x.restore(0, 1);
        x.row(9, 4);
        A.due("the number is given again", x.told(3), 2);
        A.due("step", x.step(0), 0);
        A.due("first waits", x.taskAt(0, 4), 1);
        A.due("step", x.step(0), 9);
        A.due("restore(1, 1)", x.restore(1, 1), 3);
        int[] keys = {0, 5, 5};
        for (int key : keys) {
            A.due("step of the later mark", x.step(0), key);
        }
        A.due("sum(5)", x.sum(5), 5);
        A.due("sum(9)", x.sum(9), 0);
    }

    private static void marksStay() {
        KeyGroups x = new KeyGroups();
        x.timer(1, 5);
        x.timer(2, 5);
        x.mark();
        for (int turn = 0; turn < 3; turn++) {
            A.due("tick(5)", x.tick(5), 2);
            A.due("restore(0, 1)", x.restore(0, 1), 0);
            A.due("timers wait again", x.told(7), 2);
            A.due("TIME", x.told(8), 0);
        }
        A.due("one mark", x.told(10), 1);
        A.due("mark()", x.mark(), 1);
    }
}
