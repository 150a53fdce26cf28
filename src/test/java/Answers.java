/** Counts the calls of one test whose answer is not the one that is due. */
final class Answers {
    /** With 8 groups, as a new object has them: KEY_OF[g] is a key of group g. */
    static final int[] KEY_OF = {0, 5, 3, 1, 6, 4, 2, 9};

    private final String test;
    private int calls;
    private int wrong;

    Answers(String test) {
        this.test = test;
    }

    void due(String call, long got, long want) {
        calls++;
        if (got != want) {
            wrong++;
            System.out.println(test + ": " + call + " answered " + got + ", due is " + want);
        }
    }

    void end() {
        System.out.println(test + ": " + calls + " answers, " + wrong + " not as due");
        if (wrong != 0 || calls == 0) {
            System.exit(1);
        }
    }

    /** Gives each of the 8 groups of x so many rows of value 1 as stand in its place. */
    static void weigh(KeyGroups x, int... rows) {
        for (int group = 0; group < rows.length; group++) {
            for (int i = 0; i < rows[group]; i++) {
                x.row(KEY_OF[group], 1);
            }
        }
    }

    /** The owners of all groups as one decimal number, group 0 first, behind a leading 1. */
    static long owners(KeyGroups x) {
        long all = 1;
        for (int group = 0; group < x.told(0); group++) {
            all = all * 10 + x.groupAt(group, 0);
        }
        return all;
    }
}
