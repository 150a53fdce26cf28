/** "Terms": of several refusals that fit, the first is answered. Each call here deserves two of them or more. */
public final class OrderTest {
    private static final Answers A = new Answers("OrderTest");

    public static void main(String[] args) {
        shape();
        row();
        step();
        add();
        scale();
        groupAndTask();
        timer();
        outAndLog();
        restore();
        A.end();
    }

    private static void shape() {
        KeyGroups x = new KeyGroups();
        x.row(0, 1);
        x.timer(0, 1);
        x.mark();
        A.due("G is too small, and a row came", x.shape(1, 1), KeyGroups.OUTSIDE);
        A.due("G is too great, and a row came", x.shape(33, 1), KeyGroups.OUTSIDE);
        A.due("MOST is too small, and a row came", x.shape(8, 0), KeyGroups.OUTSIDE);
        A.due("MOST is too great, and a row came", x.shape(32, 13), KeyGroups.OUTSIDE);
        A.due("MOST is above G, and a row came", x.shape(4, 5), KeyGroups.OUTSIDE);
        A.due("a row came", x.shape(8, 4), KeyGroups.STATE);
    }

    private static void row() {
        KeyGroups x = new KeyGroups();
        A.due("no KEY, no VALUE", x.row(100, 1001), KeyGroups.UNKNOWN);
        A.due("no KEY, no VALUE", x.row(-1, -1001), KeyGroups.UNKNOWN);
        for (int i = 0; i < 400; i++) {
            x.row(0, 1);
        }
        A.due("no KEY, no ROOM", x.row(100, 1), KeyGroups.UNKNOWN);
        A.due("no KEY, no VALUE, no ROOM", x.row(-1, 1001), KeyGroups.UNKNOWN);
        A.due("no VALUE, no ROOM", x.row(0, 1001), KeyGroups.OUTSIDE);
        A.due("no VALUE, no ROOM", x.row(99, -1001), KeyGroups.OUTSIDE);
        A.due("no ROOM", x.row(0, 1), KeyGroups.ROOM);
    }

    private static void step() {
        KeyGroups x = new KeyGroups();
        A.due("no TASK, nothing waits", x.step(1), KeyGroups.UNKNOWN);
        A.due("no TASK, nothing waits", x.step(-1), KeyGroups.UNKNOWN);
        A.due("nothing waits", x.step(0), KeyGroups.NONE);
        x.row(0, 1);
        A.due("no TASK, though a row waits", x.step(1), KeyGroups.UNKNOWN);
    }

    private static void add() {
        KeyGroups x = new KeyGroups();
        A.due("no KEY, no VALUE, another EPOCH", x.add(100, 2, 1001), KeyGroups.UNKNOWN);
        A.due("no KEY, no VALUE", x.add(-1, 1, -1001), KeyGroups.UNKNOWN);
        A.due("no KEY, another EPOCH", x.add(100, 0, 1), KeyGroups.UNKNOWN);
        A.due("no VALUE, another EPOCH", x.add(0, 2, 1001), KeyGroups.OUTSIDE);
        A.due("no VALUE, another EPOCH", x.add(0, 0, -1001), KeyGroups.OUTSIDE);
        A.due("no VALUE", x.add(0, 1, -1001), KeyGroups.OUTSIDE);
        A.due("another EPOCH", x.add(0, 2, 1000), KeyGroups.OLD);
    }

    /** With SLACK 0 and all weight in one group no ranges of 2 TASKS or more are under LIMIT. */
    private static void scale() {
        KeyGroups x = new KeyGroups();
        x.slack(0);
        x.row(0, 1);
        x.row(0, 1);
        A.due("n and the RULE are below", x.scale(0, -1), KeyGroups.OUTSIDE);
        A.due("n is above MOST, the RULE too great", x.scale(5, 2), KeyGroups.OUTSIDE);
        A.due("n is above MOST, the RULE too small", x.scale(5, -1), KeyGroups.OUTSIDE);
        A.due("n is above MOST, no ranges", x.scale(5, 1), KeyGroups.BEYOND);
        A.due("the RULE is too great, no ranges", x.scale(2, 2), KeyGroups.OUTSIDE);
        A.due("no ranges", x.scale(2, 1), KeyGroups.NONE);
        A.due("least: n is below", x.least(0), -1);
        A.due("least: n is above MOST", x.least(5), -1);
        A.due("least: no ranges", x.least(2), -1);
    }

    private static void groupAndTask() {
        KeyGroups x = new KeyGroups();
        A.due("no GROUP, no what", x.groupAt(8, 4), KeyGroups.UNKNOWN);
        A.due("no GROUP, no what", x.groupAt(-1, -1), KeyGroups.UNKNOWN);
        A.due("no what of a GROUP", x.groupAt(7, 4), KeyGroups.OUTSIDE);
        A.due("no TASK, no what", x.taskAt(1, 5), KeyGroups.UNKNOWN);
        A.due("no TASK, no what", x.taskAt(-1, -1), KeyGroups.UNKNOWN);
        A.due("no TASK, nothing waits", x.taskAt(1, 4), KeyGroups.UNKNOWN);
        A.due("no what of a TASK", x.taskAt(0, 5), KeyGroups.OUTSIDE);
        A.due("nothing waits", x.taskAt(0, 4), KeyGroups.NONE);
    }

    private static void timer() {
        KeyGroups x = new KeyGroups();
        A.due("no KEY, no time", x.timer(100, 0), KeyGroups.UNKNOWN);
        A.due("no KEY, no time", x.timer(-1, 1000001), KeyGroups.UNKNOWN);
        for (int i = 0; i < 40; i++) {
            x.timer(0, 5);
        }
        A.due("no KEY, no ROOM", x.timer(100, 5), KeyGroups.UNKNOWN);
        A.due("no KEY, no time, no ROOM", x.timer(-1, 0), KeyGroups.UNKNOWN);
        A.due("time too small, no ROOM", x.timer(0, 0), KeyGroups.OUTSIDE);
        A.due("time too great, no ROOM", x.timer(0, 1000001), KeyGroups.OUTSIDE);
        A.due("no ROOM", x.timer(0, 5), KeyGroups.ROOM);
    }

    private static void outAndLog() {
        KeyGroups x = new KeyGroups();
        A.due("no what, no row of THE OUT", x.out(0, 3), KeyGroups.OUTSIDE);
        A.due("no what, no row of THE OUT", x.out(-1, -1), KeyGroups.OUTSIDE);
        A.due("no row of THE OUT", x.out(0, 2), KeyGroups.NONE);
        A.due("no what, no row of THE LOG", x.log(0, 4), KeyGroups.OUTSIDE);
        A.due("no what, no row of THE LOG", x.log(-1, -1), KeyGroups.OUTSIDE);
        A.due("no row of THE LOG", x.log(0, 3), KeyGroups.NONE);
    }

    private static void restore() {
        KeyGroups x = new KeyGroups();
        A.due("no mark, n is below", x.restore(0, 0), KeyGroups.UNKNOWN);
        A.due("no mark, n is above MOST", x.restore(0, 5), KeyGroups.UNKNOWN);
        x.mark();
        A.due("no such mark, n is below", x.restore(1, -1), KeyGroups.UNKNOWN);
        A.due("no such mark, n is above MOST", x.restore(-1, 5), KeyGroups.UNKNOWN);
        A.due("n is below", x.restore(0, 0), KeyGroups.OUTSIDE);
        A.due("n is above MOST", x.restore(0, 5), KeyGroups.BEYOND);
    }
}
