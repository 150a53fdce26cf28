/** Promises 8 to 11 and 15: scale, moved, least, groupAt, hot. */
public final class ScaleTest {
    private static final Answers A = new Answers("ScaleTest");

    public static void main(String[] args) {
        refused();
        evenRanges();
        epochsAndMoved();
        weightsAreHalved();
        leastWithoutWeights();
        leastUnderLimit();
        limitIsRoundedUp();
        greatestPlan();
        noRanges();
        weightsCountAsMoved();
        groupsAt();
        hot();
        A.end();
    }

    private static void refused() {
        KeyGroups x = new KeyGroups();
        A.due("scale(0, 0)", x.scale(0, 0), KeyGroups.OUTSIDE);
        A.due("scale(MIN, 1)", x.scale(Integer.MIN_VALUE, 1), KeyGroups.OUTSIDE);
        A.due("scale(2, 2)", x.scale(2, 2), KeyGroups.OUTSIDE);
        A.due("scale(2, -1)", x.scale(2, -1), KeyGroups.OUTSIDE);
        A.due("OUTSIDE is ahead of BEYOND", x.scale(5, 2), KeyGroups.OUTSIDE);
        A.due("scale(5, 0)", x.scale(5, 0), KeyGroups.BEYOND);
        A.due("scale(5, 1)", x.scale(5, 1), KeyGroups.BEYOND);
        A.due("scale(MAX, 1)", x.scale(Integer.MAX_VALUE, 1), KeyGroups.BEYOND);
        A.due("least(0)", x.least(0), -1);
        A.due("least(-1)", x.least(-1), -1);
        A.due("least(5)", x.least(5), -1);
        A.due("no scale was done", x.told(11), 0);
        A.due("one task", x.told(2), 1);
    }

    private static void evenRanges() {
        KeyGroups x = new KeyGroups();
        A.due("scale(3, 0)", x.scale(3, 0), 6);
        A.dueOwners("owners of 3", x, "00111222");
        A.due("N", x.told(2), 3);
        x.scale(4, 0);
        A.dueOwners("owners of 4", x, "00112233");
        x.scale(1, 0);
        A.dueOwners("owners of 1", x, "00000000");
        x.shape(32, 12);
        x.scale(12, 0);
        int[] firsts = {0, 2, 5, 8, 10, 13, 16, 18, 21, 24, 26, 29};
        for (int task = 0; task < 12; task++) {
            A.due("first of " + task, x.taskAt(task, 0), firsts[task]);
        }
        x.shape(12, 12);
        x.scale(12, 0);
        for (int group = 0; group < 12; group++) {
            A.due("a task for each group", x.groupAt(group, 0), group);
        }
    }

    private static void epochsAndMoved() {
        KeyGroups x = new KeyGroups();
        x.scale(2, 0);
        A.due("scale(3, 0)", x.scale(3, 0), 5);
        int[] moved = {2, 3, 5, 6, 7};
        int[] epochs = {1, 1, 2, 2, 2, 3, 3, 3};
        for (int k = 0; k < moved.length; k++) {
            A.due("moved(" + k + ")", x.moved(k), moved[k]);
        }
        A.due("moved(5)", x.moved(5), KeyGroups.NONE);
        A.due("moved(-1)", x.moved(-1), KeyGroups.NONE);
        for (int group = 0; group < 8; group++) {
            A.due("epoch of " + group, x.groupAt(group, 1), epochs[group]);
        }
        x.scale(5, 0);
        A.due("a refused scale keeps moved", x.moved(0), 2);
        x.least(1);
        A.due("least keeps moved", x.moved(0), 2);
        A.due("scale(3, 0) again", x.scale(3, 0), 0);
        A.due("it moved none", x.moved(0), KeyGroups.NONE);
        A.due("it was done", x.told(11), 3);
    }

    private static void weightsAreHalved() {
        for (int rule = 0; rule < 2; rule++) {
            KeyGroups x = new KeyGroups();
            Answers.weigh(x, 1, 2, 3, 4, 5, 0, 0, 9);
            x.scale(1, rule);
            int[] half = {0, 1, 1, 2, 2, 0, 0, 4};
            for (int group = 0; group < 8; group++) {
                A.due("half of " + group, x.groupAt(group, 2), half[group]);
            }
            A.due("TOTAL", x.told(6), 10);
            A.due("rows still wait", x.told(4), 24);
        }
    }

    private static void leastWithoutWeights() {
        KeyGroups x = new KeyGroups();
        A.due("least(1)", x.least(1), 0);
        A.due("least(2)", x.least(2), 1);
        A.due("least(4)", x.least(4), 3);
        A.dueOwners("least changes nothing", x, "00000000");
        A.due("scale(4, 1)", x.scale(4, 1), 3);
        A.dueOwners("owners", x, "00000123");
        A.due("least(3)", x.least(3), 1);
        A.due("scale(3, 1)", x.scale(3, 1), 1);
        // Only the group of TASK 3 must go.
        A.dueOwners("owners", x, "00000122");
        A.due("least(1)", x.least(1), 3);
    }

    private static void leastUnderLimit() {
        KeyGroups x = new KeyGroups();
        x.slack(0);
        Answers.weigh(x, 2, 2, 2, 2, 2, 2, 2, 2);
        A.due("least(2)", x.least(2), 12);
        A.due("scale(2, 1)", x.scale(2, 1), 4);
        A.dueOwners("owners", x, "00001111");
        KeyGroups y = new KeyGroups();
        y.slack(50);
        Answers.weigh(y, 2, 2, 2, 2, 2, 2, 2, 2);
        A.due("least(2) with slack", y.least(2), 6);
        A.due("scale(2, 1) with slack", y.scale(2, 1), 2);
        A.dueOwners("owners with slack", y, "00000011");
        tiesTakeTheFewestGroups();
    }

    private static void tiesTakeTheFewestGroups() {
        KeyGroups x = new KeyGroups();
        x.scale(4, 0);
        x.slack(25);
        Answers.weigh(x, 0, 0, 4, 4, 2, 2, 2, 2);
        // LIMIT is 10: TASK 0 needs groups 2 and 3, and may have 4, which moves in any case.
        A.due("least(2)", x.least(2), 22);
        A.due("scale(2, 1)", x.scale(2, 1), 6);
        A.dueOwners("TASK 0 has the fewest", x, "00001111");
        KeyGroups y = new KeyGroups();
        y.slack(0);
        Answers.weigh(y, 1, 1, 1, 1, 1, 1, 1, 1);
        // LIMIT is 3: TASK 0 keeps 3 groups, the other five go as 2 and 3, or as 3 and 2.
        A.due("least(3)", y.least(3), 10);
        A.due("scale(3, 1)", y.scale(3, 1), 5);
        A.dueOwners("TASK 1 has the fewest", y, "00011222");
    }

    private static void limitIsRoundedUp() {
        KeyGroups x = new KeyGroups();
        x.slack(0);
        Answers.weigh(x, 1, 1, 1, 0, 0, 0, 0, 0);
        // 3 * 100 / 200 is 2 when rounded up: 2 and 1, which 1 and 1 could not be.
        A.due("least(2)", x.least(2), 2 + 5);
        A.due("scale(2, 1)", x.scale(2, 1), 6);
        A.dueOwners("owners", x, "00111111");
        KeyGroups y = new KeyGroups();
        y.slack(33);
        Answers.weigh(y, 3, 3, 0, 0, 0, 0, 0, 0);
        // 6 * 133 / 200 is 3.99, so 4: 3 and 3 alone.
        A.due("least(2) below 4", y.least(2), 4 + 6);
        y.slack(100);
        A.due("least(2) with the greatest slack", y.least(2), 1);
        KeyGroups z = new KeyGroups();
        z.slack(43);
        Answers.weigh(z, 6, 1, 0, 0, 0, 0, 0, 0);
        // 7 * 143 / 200 is 5.005, so 6.
        A.due("least(2) just above 5", z.least(2), 1 + 7);
        KeyGroups most = new KeyGroups();
        most.slack(0);
        Answers.weigh(most, 200, 200, 0, 0, 0, 0, 0, 0);
        A.due("least(2) of all rows", most.least(2), 200 + 7);
    }

    private static void greatestPlan() {
        KeyGroups x = new KeyGroups();
        x.shape(32, 12);
        A.due("least(12)", x.least(12), 11);
        A.due("scale(12, 1)", x.scale(12, 1), 11);
        A.due("TASK 0 keeps the most", x.taskAt(0, 1), 21);
        A.due("the last has one", x.taskAt(11, 0), 31);
        A.due("least(12) again", x.least(12), 0);
        x.shape(12, 12);
        A.due("scale(12, 1) of 12", x.scale(12, 1), 11);
        A.due("the last of 12", x.taskAt(11, 0), 11);
    }

    private static void noRanges() {
        KeyGroups x = new KeyGroups();
        x.slack(0);
        Answers.weigh(x, 3, 1, 0, 0, 0, 0, 0, 0);
        A.due("least(2)", x.least(2), -1);
        A.due("scale(2, 1)", x.scale(2, 1), KeyGroups.NONE);
        A.due("no scale was done", x.told(11), 0);
        A.due("weights stay", x.told(6), 4);
        A.due("one task", x.told(2), 1);
        A.due("BEYOND is ahead of NONE", x.scale(5, 1), KeyGroups.BEYOND);
        A.due("rule 0 knows no limit", x.scale(2, 0), 4);
        A.due("least(1)", x.least(1), 4);
        KeyGroups y = new KeyGroups();
        y.slack(50);
        Answers.weigh(y, 3, 1, 0, 0, 0, 0, 0, 0);
        A.due("least(2) when 3 is the limit", y.least(2), 1 + 7);
    }

    private static void weightsCountAsMoved() {
        KeyGroups x = new KeyGroups();
        x.scale(2, 0);
        Answers.weigh(x, 0, 0, 0, 5, 3, 0, 0, 0);
        A.due("least(1)", x.least(1), 3 + 4);
        x.slack(0);
        A.due("least(2) when 4 is the limit", x.least(2), -1);
        x.slack(25);
        A.due("least(2) when 5 is the limit", x.least(2), 0);
        x.step(0);
        A.due("steps take no weight away", x.least(1), 3 + 4);
        KeyGroups y = new KeyGroups();
        y.slack(100);
        Answers.weigh(y, 0, 0, 0, 0, 0, 0, 0, 7);
        A.due("least(2) moves the last with its weight", y.least(2), 8);
        A.due("scale(2, 1)", y.scale(2, 1), 1);
        A.due("moved(0)", y.moved(0), 7);
        A.due("the weight went along", y.taskAt(1, 2), 3);
    }

    private static void groupsAt() {
        KeyGroups x = new KeyGroups();
        x.scale(2, 0);
        x.row(9, 1);
        x.row(9, 1);
        x.step(1);
        int[] due = {1, 2, 2, 1};
        for (int what = 0; what < 4; what++) {
            A.due("groupAt(7, " + what + ")", x.groupAt(7, what), due[what]);
        }
        A.due("groupAt(-1, 0)", x.groupAt(-1, 0), KeyGroups.UNKNOWN);
        A.due("groupAt(8, 0)", x.groupAt(8, 0), KeyGroups.UNKNOWN);
        A.due("UNKNOWN is ahead of OUTSIDE", x.groupAt(8, 4), KeyGroups.UNKNOWN);
        A.due("groupAt(0, 4)", x.groupAt(0, 4), KeyGroups.OUTSIDE);
        A.due("groupAt(0, -1)", x.groupAt(0, -1), KeyGroups.OUTSIDE);
    }

    private static void hot() {
        KeyGroups x = new KeyGroups();
        Answers.weigh(x, 1, 0, 0, 1, 1, 0, 0, 1);
        A.due("just twice the mean is not hot", x.hot(0), KeyGroups.NONE);
        KeyGroups y = new KeyGroups();
        Answers.weigh(y, 3, 0, 0, 4, 0, 3, 0, 1);
        int[] due = {3, 0, 5};
        for (int k = 0; k < due.length; k++) {
            A.due("hot(" + k + ")", y.hot(k), due[k]);
        }
        A.due("hot(3)", y.hot(3), KeyGroups.NONE);
        A.due("hot(-1)", y.hot(-1), KeyGroups.NONE);
        A.due("hot(MIN)", y.hot(Integer.MIN_VALUE), KeyGroups.NONE);
        KeyGroups z = new KeyGroups();
        z.shape(2, 2);
        z.row(0, 1);
        A.due("all in one of two is not above twice", z.hot(0), KeyGroups.NONE);
    }
}
