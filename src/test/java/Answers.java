/** Counts the calls of one test whose answer is not the one that is due. */
final class Answers {
    /** With 8 groups, as a new object has them: KEY_OF[g] is a key of group g. */
    static final int[] KEY_OF = {0, 5, 3, 1, 6, 4, 2, 9};

    private final String test;
    private int calls;
    private int wrong;

    Answers(String test) {
        this.test = test;
    }

    void due(String call, long got, long want) {
        calls++;
        if (got != want) {
            wrong++;
            System.out.println(test + ": " + call + " answered " + got + ", due is " + want);
        }
    }

    void due(String calls, long[] got, long[] want) {
        due(calls + ": how many", got.length, want.length);
        for (int i = 0; i < Math.min(got.length, want.length); i++) {
            due(calls + ": the one at " + i, got[i], want[i]);
        }
    }

    void end() {
        System.out.println(test + ": " + calls + " answers, " + wrong + " not as due");
        if (wrong != 0 || calls == 0) {
            System.exit(1);
        }
    }

    /** The document's own words for the group of a key, in 64 bits that are cut to 32 by hand. */
    static int groupOf(int key, int groups) {
        long x = (key * 0x9E3779B1L + 7L * key) & 0xFFFFFFFFL;
        long y = x ^ (x / 32768);
        return (int) (y / 2 % groups);
    }

    static int keyOf(int group, int groups) {
        for (int key = 0; key < 100; key++) {
            if (groupOf(key, groups) == group) {
                return key;
            }
        }
        throw new IllegalArgumentException("no key is of group " + group + " of " + groups);
    }

    /** Gives each group of x, which has so many of them, the rows of value 1 that stand in its place. */
    static void weigh(KeyGroups x, int... rows) {
        for (int group = 0; group < rows.length; group++) {
            for (int i = 0; i < rows[group]; i++) {
                x.row(keyOf(group, rows.length), 1);
            }
        }
    }

    /** The owners of all groups as one text, group 0 first, each a digit or a letter behind 9. */
    void dueOwners(String when, KeyGroups x, String want) {
        StringBuilder got = new StringBuilder();
        int groups = x.told(0);
        for (int group = 0; group < groups; group++) {
            got.append(Integer.toString(x.groupAt(group, 0), 36));
        }
        calls++;
        if (!got.toString().equals(want)) {
            wrong++;
            System.out.println(test + ": " + when + ": the owners are " + got + ", due is " + want);
        }
    }
}
