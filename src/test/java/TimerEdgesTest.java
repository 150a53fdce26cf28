/** Paragraph 4 and promises 16, 17, 19: room for 40 timers, what is due, in which order, the latest 32 of THE LOG. */
public final class TimerEdgesTest {
    private static final Answers A = new Answers("TimerEdgesTest");

    public static void main(String[] args) {
        fortyAtMost();
        roomComesBackOneByOne();
        refusedTimersDoNotWait();
        dueAtTheirTime();
        timeStays();
        timeGoesFar();
        byTimes();
        byKeys();
        manyOfOneKeyAndTime();
        aTimerComesOnce();
        stateIsZeroThen();
        stateAsItWasThen();
        noState();
        logFrom31To33();
        logOfOneTick();
        logTwiceRound();
        A.end();
    }

    /** "TIMERS, 40 at most that wait". */
    private static void fortyAtMost() {
        KeyGroups x = new KeyGroups();
        A.due("none waits", x.told(7), 0);
        for (int i = 1; i <= 40; i++) {
            A.due("timer " + i, x.timer(99, 1000000), i);
        }
        A.due("timer 41", x.timer(99, 1000000), KeyGroups.ROOM);
        A.due("timer 41 of another key and time", x.timer(0, 1), KeyGroups.ROOM);
        A.due("40 wait", x.told(7), 40);
        A.due("all come", x.tick(1000000), 40);
        A.due("none waits", x.told(7), 0);
    }

    private static void roomComesBackOneByOne() {
        KeyGroups x = new KeyGroups();
        for (int i = 1; i <= 40; i++) {
            x.timer(i, i);
        }
        for (int t = 1; t <= 50; t++) {
            A.due("timer without room", x.timer(0, 100), KeyGroups.ROOM);
            A.due("tick(" + t + ")", x.tick(t), 1);
            A.due("timer with room", x.timer(t, 40 + t), 40);
            A.due("the latest", x.log(0, 1), t);
        }
        A.due("40 wait", x.told(7), 40);
    }

    private static void refusedTimersDoNotWait() {
        KeyGroups x = new KeyGroups();
        x.timer(100, 5);
        x.timer(-1, 5);
        x.timer(0, 0);
        x.timer(0, -5);
        x.timer(0, 1000001);
        A.due("none waits", x.told(7), 0);
        A.due("none comes", x.tick(1000000), 0);
        A.due("THE LOG is empty", x.told(9), 0);
    }

    /** "those come that are due": of the time t itself, not of the one behind it. */
    private static void dueAtTheirTime() {
        KeyGroups x = new KeyGroups();
        x.timer(1, 9);
        x.timer(2, 10);
        x.timer(3, 11);
        A.due("tick(8)", x.tick(8), 0);
        A.due("tick(10)", x.tick(10), 2);
        A.due("the latest", x.log(0, 0), 2);
        A.due("one waits", x.told(7), 1);
        A.due("TIME", x.told(8), 10);
        A.due("tick(11)", x.tick(11), 1);
        A.due("the latest", x.log(0, 0), 3);
        KeyGroups y = new KeyGroups();
        y.timer(5, 1);
        A.due("tick(0)", y.tick(0), 0);
        A.due("tick(1)", y.tick(1), 1);
    }

    /** "TIME goes on to t (or stays)". */
    private static void timeStays() {
        KeyGroups x = new KeyGroups();
        A.due("TIME at first", x.told(8), 0);
        A.due("tick(0)", x.tick(0), 0);
        A.due("TIME stays", x.told(8), 0);
        A.due("tick(7)", x.tick(7), 0);
        A.due("TIME goes on without a timer", x.told(8), 7);
        x.timer(0, 8);
        A.due("tick(7) again", x.tick(7), 0);
        A.due("TIME stays", x.told(8), 7);
        A.due("tick(6)", x.tick(6), KeyGroups.OUTSIDE);
        A.due("TIME stays", x.told(8), 7);
        A.due("one waits", x.told(7), 1);
    }

    private static void timeGoesFar() {
        KeyGroups x = new KeyGroups();
        x.timer(3, 1000000);
        A.due("tick(999999)", x.tick(999999), 0);
        A.due("tick(1000001)", x.tick(1000001), KeyGroups.OUTSIDE);
        A.due("TIME", x.told(8), 999999);
        A.due("tick(1000000)", x.tick(1000000), 1);
        A.due("its time", x.log(0, 1), 1000000);
        A.due("TIME", x.told(8), 1000000);
        A.due("tick(1000000) again", x.tick(1000000), 0);
        x.clear();
        A.due("TIME behind a clear", x.told(8), 0);
        A.due("timer behind a clear", x.timer(3, 1), 1);
    }

    private static void dueLog(KeyGroups x, int[][] inOrder) {
        A.due("kept", x.told(9), inOrder.length);
        for (int i = 0; i < inOrder.length; i++) {
            int latest = inOrder.length - 1 - i;
            A.due("KEY of log(" + latest + ")", x.log(latest, 0), inOrder[i][0]);
            A.due("time of log(" + latest + ")", x.log(latest, 1), inOrder[i][1]);
        }
    }

    /** "by their times": however they were set, whatever their keys. */
    private static void byTimes() {
        KeyGroups x = new KeyGroups();
        x.timer(0, 9);
        x.timer(50, 2);
        x.timer(10, 5);
        x.timer(99, 1);
        x.timer(5, 7);
        A.due("tick(9)", x.tick(9), 5);
        dueLog(x, new int[][] {{99, 1}, {50, 2}, {10, 5}, {5, 7}, {0, 9}});
    }

    /** "of one time by KEYS". */
    private static void byKeys() {
        KeyGroups x = new KeyGroups();
        int[] keys = {50, 99, 0, 49, 51, 1, 98};
        for (int key : keys) {
            x.timer(key, 3);
        }
        x.timer(99, 2);
        x.timer(0, 4);
        A.due("tick(4)", x.tick(4), 9);
        dueLog(x, new int[][] {{99, 2}, {0, 3}, {1, 3}, {49, 3}, {50, 3}, {51, 3}, {98, 3}, {99, 3}, {0, 4}});
    }

    /** "then as they were set": of equal ones the first finds the state, the others none. */
    private static void manyOfOneKeyAndTime() {
        KeyGroups x = new KeyGroups();
        x.add(6, 1, 500);
        for (int i = 0; i < 3; i++) {
            x.timer(6, 4);
        }
        x.timer(5, 4);
        A.due("tick(4)", x.tick(4), 4);
        long[] sums = {0, 0, 500, 0};
        int[] keys = {6, 6, 6, 5};
        for (int i = 0; i < 4; i++) {
            A.due("KEY of log(" + i + ")", x.log(i, 0), keys[i]);
            A.due("SUM of log(" + i + ")", x.log(i, 3), sums[i]);
        }
    }

    /** "the timer is gone". */
    private static void aTimerComesOnce() {
        KeyGroups x = new KeyGroups();
        x.timer(6, 4);
        A.due("tick(4)", x.tick(4), 1);
        A.due("tick(4) again", x.tick(4), 0);
        A.due("tick(5)", x.tick(5), 0);
        A.due("none waits", x.told(7), 0);
        A.due("one of THE LOG", x.told(9), 1);
    }

    /** "its STATE is 0 and 0 then": of its key alone, and rows that wait are done anew. */
    private static void stateIsZeroThen() {
        KeyGroups x = new KeyGroups();
        for (int key = 40; key < 43; key++) {
            x.row(key, key);
        }
        x.row(41, 7);
        x.step(0);
        x.step(0);
        x.step(0);
        x.timer(41, 5);
        A.due("tick(4)", x.tick(4), 0);
        A.due("not yet", x.counted(41), 1);
        A.due("tick(5)", x.tick(5), 1);
        int[] counts = {1, 0, 1};
        int[] sums = {40, 0, 42};
        for (int i = 0; i < 3; i++) {
            A.due("counted(" + (40 + i) + ")", x.counted(40 + i), counts[i]);
            A.due("sum(" + (40 + i) + ")", x.sum(40 + i), sums[i]);
        }
        A.due("a row waits", x.told(4), 1);
        x.step(0);
        A.due("counted(41) anew", x.counted(41), 1);
        A.due("sum(41) anew", x.sum(41), 7);
        A.due("weights stay", x.told(6), 4);
    }

    /** "its COUNT and SUM are put behind THE LOG", as they are when it comes. */
    private static void stateAsItWasThen() {
        KeyGroups x = new KeyGroups();
        x.timer(8, 5);
        x.timer(8, 9);
        x.row(8, -1000);
        x.row(8, -999);
        x.row(8, 3);
        x.step(0);
        x.step(0);
        x.tick(5);
        x.step(0);
        x.add(8, 1, 1000);
        x.tick(9);
        x.add(8, 1, 77);
        long[][] due = {{8, 9, 1, 1003}, {8, 5, 2, -1999}};
        for (int i = 0; i < 2; i++) {
            for (int what = 0; what < 4; what++) {
                A.due("log(" + i + ", " + what + ")", x.log(i, what), due[i][what]);
            }
        }
        A.due("the SUM now", x.sum(8), 77);
        A.due("THE OUT stays", x.told(5), 3);
    }

    private static void noState() {
        KeyGroups x = new KeyGroups();
        x.timer(99, 1);
        A.due("tick(1)", x.tick(1), 1);
        long[] due = {99, 1, 0, 0};
        for (int what = 0; what < 4; what++) {
            A.due("log(0, " + what + ") of a key without rows", x.log(0, what), due[what]);
        }
    }

    private static void set(KeyGroups x, int from, int to) {
        for (int time = from; time <= to; time++) {
            x.timer(time % 100, time);
        }
    }

    /** Each row of THE LOG down from the latest, which came at this time; none behind the last that is kept. */
    private static void dueLatest(KeyGroups x, int latest, int kept) {
        A.due("kept at " + latest, x.told(9), kept);
        for (int i = 0; i < kept; i++) {
            A.due("KEY of log(" + i + ") at " + latest, x.log(i, 0), (latest - i) % 100);
            A.due("time of log(" + i + ") at " + latest, x.log(i, 1), latest - i);
        }
        for (int i : new int[] {-1, kept, Integer.MAX_VALUE, Integer.MIN_VALUE}) {
            A.due("log(" + i + ", 0) at " + latest, x.log(i, 0), KeyGroups.NONE);
        }
    }

    /** "of which the latest 32 are kept". */
    private static void logFrom31To33() {
        KeyGroups x = new KeyGroups();
        set(x, 1, 33);
        for (int t = 1; t <= 31; t++) {
            x.tick(t);
        }
        dueLatest(x, 31, 31);
        x.tick(32);
        dueLatest(x, 32, 32);
        x.tick(33);
        dueLatest(x, 33, 32);
    }

    private static void logOfOneTick() {
        for (int count : new int[] {1, 31, 32, 33, 40}) {
            KeyGroups x = new KeyGroups();
            set(x, 1, count);
            A.due("tick of " + count, x.tick(500), count);
            dueLatest(x, count, Math.min(count, 32));
        }
    }

    private static void logTwiceRound() {
        KeyGroups x = new KeyGroups();
        set(x, 1, 40);
        x.tick(40);
        set(x, 41, 80);
        x.tick(80);
        dueLatest(x, 80, 32);
        set(x, 81, 105);
        x.tick(105);
        dueLatest(x, 105, 32);
        set(x, 106, 110);
        x.tick(110);
        dueLatest(x, 110, 32);
        A.due("none waits", x.told(7), 0);
    }
}
