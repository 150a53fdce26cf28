/** Promises 16, 17 and 19: timer, tick, log. */
public final class TimersTest {
    private static final Answers A = new Answers("TimersTest");

    public static void main(String[] args) {
        refused();
        roomForTimers();
        order();
        statesAreForgotten();
        logKeepsTheLatest();
        timersStayWithScales();
        A.end();
    }

    private static void refused() {
        KeyGroups x = new KeyGroups();
        A.due("timer(-1, 5)", x.timer(-1, 5), KeyGroups.UNKNOWN);
        A.due("timer(100, 0)", x.timer(100, 0), KeyGroups.UNKNOWN);
        A.due("timer(0, 0)", x.timer(0, 0), KeyGroups.OUTSIDE);
        A.due("timer(0, -1)", x.timer(0, -1), KeyGroups.OUTSIDE);
        A.due("timer(0, 1000001)", x.timer(0, 1000001), KeyGroups.OUTSIDE);
        A.due("timer(0, 1)", x.timer(0, 1), 1);
        A.due("timer(0, 1000000)", x.timer(0, 1000000), 2);
        A.due("tick(-1)", x.tick(-1), KeyGroups.OUTSIDE);
        A.due("tick(1000001)", x.tick(1000001), KeyGroups.OUTSIDE);
        A.due("tick(0)", x.tick(0), 0);
        A.due("tick(1)", x.tick(1), 1);
        A.due("tick(0) behind 1", x.tick(0), KeyGroups.OUTSIDE);
        A.due("timer at TIME", x.timer(0, 1), KeyGroups.OUTSIDE);
        A.due("TIME", x.told(8), 1);
        A.due("tick(999999)", x.tick(999999), 0);
        A.due("tick(1000000)", x.tick(1000000), 1);
        A.due("tick(1000000) again", x.tick(1000000), 0);
        A.due("no timer can be set any more", x.timer(0, 1000000), KeyGroups.OUTSIDE);
    }

    private static void roomForTimers() {
        KeyGroups x = new KeyGroups();
        for (int i = 0; i < 40; i++) {
            A.due("timer " + i, x.timer(i, 40 - i), i + 1);
        }
        A.due("timer 40", x.timer(0, 100), KeyGroups.ROOM);
        A.due("UNKNOWN is ahead of ROOM", x.timer(100, 100), KeyGroups.UNKNOWN);
        A.due("OUTSIDE is ahead of ROOM", x.timer(0, 0), KeyGroups.OUTSIDE);
        A.due("tick(1)", x.tick(1), 1);
        A.due("a timer that came gives room", x.timer(0, 100), 40);
        A.due("the rest", x.tick(40), 39);
        A.due("one waits", x.told(7), 1);
    }

    private static void order() {
        KeyGroups x = new KeyGroups();
        x.timer(3, 10);
        x.timer(9, 5);
        x.timer(1, 10);
        x.timer(2, 5);
        x.timer(4, 5);
        x.timer(50, 11);
        x.timer(3, 7);
        A.due("tick(10)", x.tick(10), 6);
        int[][] due = {{2, 5}, {4, 5}, {9, 5}, {3, 7}, {1, 10}, {3, 10}};
        for (int i = 0; i < due.length; i++) {
            A.due("KEY of log(" + (5 - i) + ")", x.log(5 - i, 0), due[i][0]);
            A.due("time of log(" + (5 - i) + ")", x.log(5 - i, 1), due[i][1]);
        }
        A.due("told(7)", x.told(7), 1);
        A.due("told(9)", x.told(9), 6);
        A.due("log(6, 0)", x.log(6, 0), KeyGroups.NONE);
        A.due("log(-1, 0)", x.log(-1, 0), KeyGroups.NONE);
        A.due("log(0, 4)", x.log(0, 4), KeyGroups.OUTSIDE);
        A.due("log(0, -1)", x.log(0, -1), KeyGroups.OUTSIDE);
        A.due("OUTSIDE is ahead of NONE", x.log(6, 4), KeyGroups.OUTSIDE);
        A.due("tick(11)", x.tick(11), 1);
        A.due("the latest", x.log(0, 0), 50);
    }

    private static void statesAreForgotten() {
        KeyGroups x = new KeyGroups();
        x.row(4, 10);
        x.row(4, 20);
        x.row(5, 7);
        x.row(4, 30);
        x.step(0);
        x.step(0);
        x.step(0);
        x.timer(4, 3);
        x.timer(4, 3);
        A.due("tick(5)", x.tick(5), 2);
        long[][] due = {{4, 3, 0, 0}, {4, 3, 2, 30}};
        for (int i = 0; i < 2; i++) {
            for (int what = 0; what < 4; what++) {
                A.due("log(" + i + ", " + what + ")", x.log(i, what), due[i][what]);
            }
        }
        A.due("counted(4)", x.counted(4), 0);
        A.due("sum(4)", x.sum(4), 0);
        A.due("counted(5)", x.counted(5), 1);
        A.due("sum(5)", x.sum(5), 7);
        A.due("its row still waits", x.told(4), 1);
        x.step(0);
        A.due("counted(4) anew", x.counted(4), 1);
        A.due("sum(4) anew", x.sum(4), 30);
        A.due("its SUM in THE OUT", x.out(3, 2), 30);
        A.due("an older SUM in THE OUT", x.out(1, 2), 30);
    }

    private static void logKeepsTheLatest() {
        KeyGroups x = new KeyGroups();
        for (int i = 1; i <= 31; i++) {
            x.timer(i, i);
        }
        x.tick(31);
        A.due("31 are kept", x.told(9), 31);
        A.due("log(31, 0)", x.log(31, 0), KeyGroups.NONE);
        for (int i = 32; i <= 50; i++) {
            x.timer(i, i);
        }
        x.tick(50);
        A.due("32 are kept", x.told(9), 32);
        for (int i = 0; i < 32; i++) {
            A.due("log(" + i + ", 0)", x.log(i, 0), 50 - i);
            A.due("log(" + i + ", 1)", x.log(i, 1), 50 - i);
        }
        A.due("log(32, 0)", x.log(32, 0), KeyGroups.NONE);
    }

    private static void timersStayWithScales() {
        KeyGroups x = new KeyGroups();
        x.row(9, 5);
        x.timer(9, 2);
        x.scale(4, 0);
        A.due("step of the new owner", x.step(3), 9);
        A.due("tick(2)", x.tick(2), 1);
        A.due("its SUM", x.log(0, 3), 5);
        x.scale(2, 0);
        A.due("a scale keeps THE LOG", x.told(9), 1);
    }
}
