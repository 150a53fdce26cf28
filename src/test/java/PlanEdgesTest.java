/** Paragraph 3 and promises 3, 8 to 11, 15: LIMIT, what moves least, ties, epochs, halves, hot groups. */
public final class PlanEdgesTest {
    private static final Answers A = new Answers("PlanEdgesTest");

    public static void main(String[] args) {
        limitIsRoundedUp();
        limitIsRoundedOnce();
        limitIsReached();
        limitOfNoWeight();
        limitByTheLeastAndTheMostSlack();
        slackAtFirst();
        limitByTheNewCount();
        limitOfAllRows();
        limitOfWeightsNotOfWaiting();
        noRangesThoughEachGroupFits();
        evenOnesKnowNoLimit();
        onesAreMoved();
        weightsAreMoved();
        tiesOfTaskZero();
        tiesOfTheTasksBehind();
        nothingIsMoved();
        fewerTasks();
        oneTaskAlone();
        epochsOfMovedOnes();
        movedByNumbers();
        movedOfTheLatest();
        halvesAreCut();
        leastIsWhatScaleMoves();
        weightsOfTasks();
        weightsOfTheGreatestTask();
        hotIsAboveTwice();
        hotInOrder();
        hotBehindScales();
        A.end();
    }

    private static KeyGroups weighed(int slack, int... rows) {
        KeyGroups x = new KeyGroups();
        x.shape(rows.length, Math.min(rows.length, 12));
        x.slack(slack);
        Answers.weigh(x, rows);
        return x;
    }

    private static void dueLeast(long due, int slack, int n, int... rows) {
        KeyGroups x = weighed(slack, rows);
        A.due("least(" + n + ") with SLACK " + slack, x.least(n), due);
        A.due("scale(" + n + ", 1) with SLACK " + slack, Math.min(x.scale(n, 1), 0), due == -1 ? KeyGroups.NONE : 0);
    }

    /** "divided by 100 n, rounded up". */
    private static void limitIsRoundedUp() {
        // 1 * 100 / 200 and / 400: both 1, which a cut LIMIT of 0 would refuse.
        dueLeast(1, 0, 2, 1, 0, 0, 0, 0, 0, 0, 0);
        dueLeast(3, 0, 4, 1, 0, 0, 0, 0, 0, 0, 0);
        // 4 * 100 / 200 is 2 and no more; 4 * 101 / 200 is 2.02, so 3.
        dueLeast(-1, 0, 2, 3, 1, 0, 0, 0, 0, 0, 0);
        dueLeast(2 + 6, 1, 2, 3, 1, 0, 0, 0, 0, 0, 0);
        // 4 * 149 / 200 is 2.98, so 3; with 50 it is 3; with 51 it is 3.02, so 4.
        dueLeast(2 + 6, 49, 2, 3, 1, 0, 0, 0, 0, 0, 0);
        dueLeast(2 + 6, 50, 2, 3, 1, 0, 0, 0, 0, 0, 0);
        dueLeast(1, 51, 2, 3, 1, 0, 0, 0, 0, 0, 0);
    }

    /** It is rounded when all is multiplied and divided, not before. */
    private static void limitIsRoundedOnce() {
        // 4 * 150 / 300 is 2; 4 / 3 rounded up, and half more, would be 3.
        dueLeast(-1, 50, 3, 3, 1, 0, 0, 0, 0, 0, 0);
        // 7 * 143 / 200 is 5.005, so 6; 7 * 143 / 100 cut, and half of it, would be 5.
        dueLeast(2 + 6, 43, 2, 6, 1, 0, 0, 0, 0, 0, 0);
        // 3 * 110 / 300 is 1.1, so 2.
        dueLeast(2 + 6, 10, 3, 2, 1, 0, 0, 0, 0, 0, 0);
    }

    /** "no TASK's WEIGHTS together are above LIMIT": just LIMIT is taken. */
    private static void limitIsReached() {
        dueLeast(3 + 6, 0, 2, 2, 2, 0, 0, 0, 0, 0, 0);
        dueLeast(-1, 0, 2, 0, 0, 0, 0, 0, 0, 1, 3);
        dueLeast(3, 0, 2, 0, 0, 0, 0, 0, 0, 2, 2);
        dueLeast(3 * 6, 0, 4, 2, 2, 2, 2, 2, 2, 2, 2);
        dueLeast(-1, 0, 4, 2, 2, 2, 2, 2, 1, 3, 2);
    }

    private static void limitOfNoWeight() {
        dueLeast(0, 0, 1, 0, 0, 0, 0, 0, 0, 0, 0);
        dueLeast(3, 0, 4, 0, 0, 0, 0, 0, 0, 0, 0);
        dueLeast(11, 100, 12, new int[32]);
        dueLeast(1, 0, 2, 0, 0);
    }

    /** "SLACK is 0 to 100". */
    private static void limitByTheLeastAndTheMostSlack() {
        // 2 * 100 / 200 is 1; 2 * 101 / 200 is 2 when rounded up.
        dueLeast(-1, 0, 2, 2, 0, 0, 0, 0, 0, 0, 0);
        dueLeast(1, 1, 2, 2, 0, 0, 0, 0, 0, 0, 0);
        // With 100 two tasks have LIMIT for all, four for half of it.
        dueLeast(1, 100, 2, 3, 1, 0, 0, 0, 0, 0, 0);
        dueLeast(-1, 100, 4, 3, 1, 0, 0, 0, 0, 0, 0);
        dueLeast(3 + 6, 100, 4, 2, 2, 0, 0, 0, 0, 0, 0);
    }

    /** "20 at first": 5 * 120 / 200 is 3. */
    private static void slackAtFirst() {
        KeyGroups x = new KeyGroups();
        Answers.weigh(x, 4, 1, 0, 0, 0, 0, 0, 0);
        A.due("least(2) above 3", x.least(2), -1);
        KeyGroups y = new KeyGroups();
        Answers.weigh(y, 3, 2, 0, 0, 0, 0, 0, 0);
        A.due("least(2) of 3", y.least(2), 3 + 6);
        y.clear();
        Answers.weigh(y, 4, 1, 0, 0, 0, 0, 0, 0);
        A.due("least(2) behind a clear", y.least(2), -1);
        y.slack(21);
        A.due("least(2) of 3.025, so 4", y.least(2), 2 + 6);
    }

    private static void limitByTheNewCount() {
        KeyGroups x = new KeyGroups();
        x.slack(0);
        x.scale(4, 0);
        Answers.weigh(x, 1, 1, 1, 1, 1, 1, 1, 1);
        // Groups 2 to 7 have another task then, whatever the tasks were.
        A.due("least(2) of 4 tasks", x.least(2), 6 * 2);
        A.due("least(1) of 4 tasks", x.least(1), 6 * 2);
        A.due("least(4) of 4 tasks", x.least(4), 0);
        A.due("scale(2, 1)", x.scale(2, 1), 6);
        A.dueOwners("scale(2, 1)", x, "00001111");
    }

    /** 400 * 199 / 200 is 398. */
    private static void limitOfAllRows() {
        dueLeast(-1, 99, 2, 399, 1, 0, 0, 0, 0, 0, 0);
        dueLeast(1, 100, 2, 399, 1, 0, 0, 0, 0, 0, 0);
        dueLeast(3 + 6, 99, 2, 398, 2, 0, 0, 0, 0, 0, 0);
        dueLeast(201 + 6, 0, 2, 200, 200, 0, 0, 0, 0, 0, 0);
        dueLeast(401, 100, 2, 0, 0, 0, 0, 0, 0, 0, 400);
        dueLeast(-1, 99, 2, 0, 0, 0, 0, 0, 0, 0, 400);
    }

    private static void limitOfWeightsNotOfWaiting() {
        KeyGroups x = weighed(0, 2, 2, 0, 0, 0, 0, 0, 0);
        for (int i = 0; i < 4; i++) {
            x.step(0);
        }
        A.due("steps leave TOTAL", x.told(6), 4);
        A.due("steps leave what is moved", x.least(2), 3 + 6);
        x.scale(1, 0);
        A.due("half of TOTAL", x.told(6), 2);
        A.due("half of the weight is moved", x.least(2), 2 + 6);
    }

    /** "NONE: there are no such RANGES", as groups stay side by side. */
    private static void noRangesThoughEachGroupFits() {
        // LIMIT is 3, and of three groups of 2 some two are in one range.
        dueLeast(-1, 0, 2, 2, 2, 2, 0, 0, 0, 0, 0);
        dueLeast(3 + 3 + 5, 0, 3, 2, 2, 2, 0, 0, 0, 0, 0);
        // LIMIT is 2: four tasks for 1, 2, 1, 2, 1, 1 are too few though TOTAL is 8.
        dueLeast(-1, 0, 4, 1, 2, 1, 2, 1, 1, 0, 0);
        dueLeast(3 * 3 + 3, 0, 4, 1, 1, 2, 2, 2, 0, 0, 0);
    }

    private static void evenOnesKnowNoLimit() {
        KeyGroups x = weighed(0, 400, 0, 0, 0, 0, 0, 0, 0);
        A.due("scale(4, 1)", x.scale(4, 1), KeyGroups.NONE);
        A.due("scale(4, 0)", x.scale(4, 0), 6);
        A.due("TOTAL", x.told(6), 200);
    }

    private static KeyGroups threeOfTwelve(int slack, int... rows) {
        KeyGroups x = new KeyGroups();
        x.shape(12, 12);
        x.slack(slack);
        x.scale(3, 0);
        Answers.weigh(x, rows);
        return x;
    }

    /** "WEIGHTS and 1 of each GROUP": TASK 1 gives group 4 (3 and 1) or 5 to 7 (2 and 3). LIMIT is 3. */
    private static void onesAreMoved() {
        KeyGroups x = threeOfTwelve(50, 0, 0, 0, 0, 3, 2, 0, 0, 0, 0, 0, 0);
        A.due("least(3)", x.least(3), 4);
        A.due("scale(3, 1)", x.scale(3, 1), 1);
        A.dueOwners("scale(3, 1)", x, "000001112222");
    }

    /** TASK 1 gives group 4 (6 and 1) or 5 to 7 (3 and 3). LIMIT is 6. */
    private static void weightsAreMoved() {
        KeyGroups x = threeOfTwelve(100, 0, 0, 0, 0, 6, 1, 1, 1, 0, 0, 0, 0);
        A.due("least(3)", x.least(3), 6);
        A.due("scale(3, 1)", x.scale(3, 1), 3);
        A.dueOwners("scale(3, 1)", x, "000012222222");
    }

    /** "of several those in which TASK 0 has the fewest GROUPS": group 4 to TASK 0, or 7 to TASK 2. LIMIT is 3. */
    private static void tiesOfTaskZero() {
        KeyGroups x = threeOfTwelve(50, 0, 0, 0, 0, 2, 1, 0, 2, 0, 0, 0, 0);
        A.due("least(3)", x.least(3), 3);
        A.due("scale(3, 1)", x.scale(3, 1), 1);
        A.dueOwners("scale(3, 1)", x, "000011122222");
    }

    /** "then TASK 1, and so on". */
    private static void tiesOfTheTasksBehind() {
        KeyGroups x = weighed(0, 1, 1, 1, 1, 1, 1, 1, 1);
        // LIMIT is 3: TASK 0 keeps three; 2 and 3, or 3 and 2, for the others.
        A.due("scale(3, 1)", x.scale(3, 1), 5);
        A.dueOwners("TASK 1 has the fewest", x, "00011222");
        KeyGroups y = weighed(50, 1, 1, 1, 1, 1, 1, 1, 1);
        // LIMIT is 3 of 4 tasks: 1, 1, 3 is the first of six ways.
        A.due("scale(4, 1)", y.scale(4, 1), 5);
        A.dueOwners("TASKS 1 and 2 have the fewest", y, "00012333");
        KeyGroups z = weighed(20, 2, 1, 1, 1, 1, 1, 1, 1, 1, 1, 1, 1);
        // 13 * 120 / 500 is 3.12, so 4: TASK 0 keeps 3, and of the other nine 1, 1, 3, 4 come first.
        A.due("scale(5, 1)", z.scale(5, 1), 9);
        A.dueOwners("TASKS 1, 2 and 3 have the fewest", z, "000123334444");
    }

    private static void nothingIsMoved() {
        KeyGroups x = new KeyGroups();
        x.scale(2, 0);
        x.slack(0);
        Answers.weigh(x, 3, 0, 0, 0, 0, 0, 0, 3);
        A.due("least(2)", x.least(2), 0);
        A.due("scale(2, 1)", x.scale(2, 1), 0);
        A.due("moved(0)", x.moved(0), KeyGroups.NONE);
        A.due("epoch of 0", x.groupAt(0, 1), 1);
        A.due("epoch of 7", x.groupAt(7, 1), 2);
        A.due("weights are halved all the same", x.told(6), 2);
        A.due("the scale was done", x.told(11), 2);
    }

    /** The groups of tasks that end are moved in any case. */
    private static void fewerTasks() {
        KeyGroups x = new KeyGroups();
        x.slack(100);
        x.scale(4, 0);
        Answers.weigh(x, 1, 1, 1, 1, 1, 1, 1, 1);
        A.due("least(3)", x.least(3), 2 + 2);
        A.due("least(2)", x.least(2), 2 + 2 + 2 + 2);
        A.due("least(1)", x.least(1), 6 * 2);
        A.due("scale(3, 1)", x.scale(3, 1), 2);
        A.dueOwners("scale(3, 1)", x, "00112222");
        A.due("moved(0)", x.moved(0), 6);
        A.due("N", x.told(2), 3);
    }

    /** LIMIT of one task is TOTAL at least. */
    private static void oneTaskAlone() {
        dueLeast(0, 0, 1, 400, 0, 0, 0, 0, 0, 0, 0);
        KeyGroups x = new KeyGroups();
        x.shape(32, 1);
        for (int rule = 0; rule < 2; rule++) {
            A.due("scale(1, " + rule + ")", x.scale(1, rule), 0);
            A.due("scale(2, " + rule + ")", x.scale(2, rule), KeyGroups.BEYOND);
        }
        A.due("least(1)", x.least(1), 0);
        A.due("scales", x.told(11), 2);
    }

    /** "Of each GROUP that has another OWNER then the EPOCH is one more", by either rule. */
    private static void epochsOfMovedOnes() {
        KeyGroups x = new KeyGroups();
        x.scale(4, 1);
        dueEpochs(x, 1, 1, 1, 1, 1, 2, 2, 2);
        x.scale(4, 0);
        // 00000123 to 00112233: 2, 3, 4 and 5, 6 are moved, 7 stays.
        dueEpochs(x, 1, 1, 2, 2, 2, 3, 3, 2);
        x.scale(4, 0);
        dueEpochs(x, 1, 1, 2, 2, 2, 3, 3, 2);
        x.scale(1, 0);
        dueEpochs(x, 1, 1, 3, 3, 3, 4, 4, 3);
        x.scale(5, 0);
        x.least(4);
        dueEpochs(x, 1, 1, 3, 3, 3, 4, 4, 3);
    }

    private static void dueEpochs(KeyGroups x, int... due) {
        for (int group = 0; group < due.length; group++) {
            A.due("epoch of " + group, x.groupAt(group, 1), due[group]);
        }
    }

    private static void movedByNumbers() {
        KeyGroups x = new KeyGroups();
        x.scale(4, 1);
        A.due("scale(4, 0)", x.scale(4, 0), 5);
        for (int k = 0; k < 5; k++) {
            A.due("moved(" + k + ")", x.moved(k), 2 + k);
        }
        A.due("moved(5)", x.moved(5), KeyGroups.NONE);
        A.due("scale(2, 1)", x.scale(2, 1), 4);
        // 00112233 to 00111111: 4 to 7 are moved.
        A.dueOwners("scale(2, 1)", x, "00111111");
        A.due("moved(3)", x.moved(3), 7);
        A.due("moved(4)", x.moved(4), KeyGroups.NONE);
    }

    /** "by the latest scale() that was done". */
    private static void movedOfTheLatest() {
        KeyGroups x = new KeyGroups();
        A.due("before a scale", x.moved(0), KeyGroups.NONE);
        x.slack(0);
        x.scale(2, 0);
        x.row(0, 1);
        x.row(0, 1);
        x.scale(0, 0);
        x.scale(5, 0);
        x.scale(2, 2);
        A.due("scale(3, 1)", x.scale(3, 1), KeyGroups.NONE);
        x.least(1);
        A.due("refused ones were not done", x.moved(0), 4);
        A.due("scales that were done", x.told(11), 1);
        x.scale(2, 0);
        A.due("one that moved none was done", x.moved(0), KeyGroups.NONE);
        A.due("scales that were done", x.told(11), 2);
    }

    /** "Then all WEIGHTS are halved (cut)": also those of groups that stay, by either rule. */
    private static void halvesAreCut() {
        for (int rule = 0; rule < 2; rule++) {
            KeyGroups x = weighed(100, 0, 1, 2, 3, 4, 5, 6, 7);
            int[][] halves = {{0, 0, 1, 1, 2, 2, 3, 3}, {0, 0, 0, 0, 1, 1, 1, 1}, {0, 0, 0, 0, 0, 0, 0, 0}};
            for (int[] due : halves) {
                x.scale(2, rule);
                for (int group = 0; group < 8; group++) {
                    A.due("weight of " + group, x.groupAt(group, 2), due[group]);
                }
            }
            A.due("TOTAL", x.told(6), 0);
            A.due("rows wait all the same", x.told(4), 28);
        }
        KeyGroups x = weighed(0, 399, 1, 0, 0, 0, 0, 0, 0);
        x.scale(1, 1);
        A.due("half of 399", x.groupAt(0, 2), 199);
        A.due("half of 1", x.groupAt(1, 2), 0);
    }

    /** Promise 10: weights before they are halved. */
    private static void leastIsWhatScaleMoves() {
        KeyGroups x = weighed(100, 0, 0, 0, 0, 0, 0, 0, 7);
        A.due("least(2)", x.least(2), 8);
        A.due("least(2) again", x.least(2), 8);
        A.due("least(4), as LIMIT is 4 then", x.least(4), -1);
        A.due("scale(2, 1)", x.scale(2, 1), 1);
        A.due("least(1) of the half", x.least(1), 3 + 1);
        A.due("least(2) of what is", x.least(2), 0);
    }

    /** Promise 12: "their WEIGHTS together", of those that a task has now. */
    private static void weightsOfTasks() {
        KeyGroups x = new KeyGroups();
        x.scale(3, 0);
        A.due("no weight", x.taskAt(0, 2), 0);
        Answers.weigh(x, 1, 2, 0, 0, 0, 3, 0, 2);
        int[] due = {3, 0, 5};
        for (int task = 0; task < 3; task++) {
            A.due("weights of " + task, x.taskAt(task, 2), due[task]);
        }
        x.step(2);
        A.due("a step leaves them", x.taskAt(2, 2), 5);
        x.scale(2, 0);
        A.due("halves of TASK 0", x.taskAt(0, 2), 1);
        A.due("halves of TASK 1", x.taskAt(1, 2), 1 + 1);
    }

    private static void weightsOfTheGreatestTask() {
        KeyGroups x = new KeyGroups();
        x.shape(32, 12);
        for (int i = 0; i < 400; i++) {
            x.row(i % 100, 1);
        }
        A.due("weights of one task", x.taskAt(0, 2), 400);
        x.scale(12, 0);
        int together = 0;
        for (int task = 0; task < 12; task++) {
            together += x.taskAt(task, 2);
        }
        A.due("weights of twelve", together, x.told(6));
        A.due("weights of a task that is not", x.taskAt(12, 2), KeyGroups.UNKNOWN);
    }

    /** Promise 15: "whose WEIGHT times G is more than twice TOTAL". */
    private static void hotIsAboveTwice() {
        A.due("40 of twice 20", weighed(20, 5, 15, 0, 0, 0, 0, 0, 0).hot(1), KeyGroups.NONE);
        A.due("40 of twice 19", weighed(20, 5, 14, 0, 0, 0, 0, 0, 0).hot(1), 0);
        A.due("8 of twice 4", weighed(20, 1, 1, 0, 0, 1, 0, 0, 1).hot(0), KeyGroups.NONE);
        A.due("8 of twice 3", weighed(20, 0, 1, 0, 0, 1, 0, 0, 1).hot(0), 1);
        A.due("all of two groups", weighed(20, 0, 9).hot(0), KeyGroups.NONE);
        A.due("6 of twice 3", weighed(20, 2, 1, 0).hot(0), KeyGroups.NONE);
        A.due("9 of twice 4", weighed(20, 3, 1, 0).hot(0), 0);
        A.due("no weight at all", new KeyGroups().hot(0), KeyGroups.NONE);
        A.due("all rows in one", weighed(20, 0, 0, 0, 0, 0, 0, 0, 400).hot(0), 7);
        A.due("and none else", weighed(20, 0, 0, 0, 0, 0, 0, 0, 400).hot(1), KeyGroups.NONE);
    }

    /** "by WEIGHT, the greatest first, then by numbers". */
    private static void hotInOrder() {
        KeyGroups x = weighed(20, 3, 0, 4, 0, 3, 0, 0, 4, 0, 0, 5, 1);
        // Twice TOTAL is 40: 5, 4 and 4 times 12 are above it, 3 times 12 are not.
        int[] due = {10, 2, 7, KeyGroups.NONE};
        for (int k = 0; k < due.length; k++) {
            A.due("hot(" + k + ")", x.hot(k), due[k]);
        }
        KeyGroups y = new KeyGroups();
        y.shape(32, 1);
        int[] keys = {0, 28, 49, 70, 6, 20, 34, 62, 30, 12, 19, 1, 22, 4};
        for (int key : keys) {
            y.row(key, 1);
        }
        y.row(23, 1);
        // 15 groups of weight 1: 32 is above 30; a sixteenth makes it 32 of 32.
        for (int k = 0; k < 14; k++) {
            A.due("hot(" + k + ") of 15", y.hot(k), k);
        }
        A.due("the last of 15", y.hot(14), 31);
        A.due("behind the last", y.hot(15), KeyGroups.NONE);
        y.row(18, 1);
        A.due("none of 16", y.hot(0), KeyGroups.NONE);
    }

    private static void hotBehindScales() {
        KeyGroups x = weighed(20, 0, 0, 0, 3, 0, 0, 0, 2);
        A.due("hot(0)", x.hot(0), 3);
        A.due("hot(1)", x.hot(1), 7);
        x.scale(1, 0);
        A.due("hot(0) of halves", x.hot(0), 3);
        A.due("hot(1) of halves", x.hot(1), 7);
        x.scale(1, 0);
        A.due("hot(0) of nothing", x.hot(0), KeyGroups.NONE);
    }
}
