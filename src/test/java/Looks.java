import java.util.ArrayList;
import java.util.List;
import java.util.stream.IntStream;

/**
 * All that calls can show of an object, in parts: an object that took 400 rows, 40 timers and 3 marks
 * to make has only some fifty of its 512 calls left, so each part is asked of an object of its own.
 */
final class Looks {
    interface Look {
        long[] at(KeyGroups x);
    }

    interface Asked {
        long of(int number);
    }

    record Part(String name, Look look) { }

    static final List<Part> ALL = all();

    private Looks() {
    }

    private static long[] each(int from, int end, Asked asked) {
        return IntStream.range(from, end).mapToLong(asked::of).toArray();
    }

    private static List<Part> all() {
        List<Part> parts = new ArrayList<>();
        parts.add(new Part("told", x -> each(0, 12, x::told)));
        parts.add(new Part("digest", x -> new long[] {x.digest()}));
        parts.add(new Part("moved", x -> each(0, 33, x::moved)));
        parts.add(new Part("hot", x -> each(0, 33, x::hot)));
        parts.add(new Part("least", x -> each(1, 13, x::least)));
        parts.add(new Part("slack", x -> new long[] {x.slack(50)}));
        parts.add(new Part("shape", x -> new long[] {x.shape(9, 3), x.told(0)}));
        addGroupsAndTasks(parts);
        addStates(parts);
        addOutAndLog(parts);
        parts.add(new Part("what waits in lines", Looks::steps));
        parts.add(new Part("KEYS of timers", x -> timers(x, 0)));
        parts.add(new Part("times of timers", x -> timers(x, 1)));
        parts.add(new Part("what is next", Looks::next));
        return parts;
    }

    private static void addGroupsAndTasks(List<Part> parts) {
        for (int i = 0; i < 4; i++) {
            int what = i;
            parts.add(new Part("groupAt " + what, x -> each(0, 33, group -> x.groupAt(group, what))));
        }
        for (int i = 0; i < 5; i++) {
            int what = i;
            parts.add(new Part("taskAt " + what, x -> each(0, 13, task -> x.taskAt(task, what))));
        }
        parts.add(new Part("group of the first keys", x -> each(0, 50, x::group)));
        parts.add(new Part("group of the last keys", x -> each(50, 100, x::group)));
    }

    private static void addStates(List<Part> parts) {
        parts.add(new Part("counted of the first keys", x -> each(0, 50, x::counted)));
        parts.add(new Part("counted of the last keys", x -> each(50, 100, x::counted)));
        parts.add(new Part("sum of the first keys", x -> each(0, 50, x::sum)));
        parts.add(new Part("sum of the last keys", x -> each(50, 100, x::sum)));
    }

    private static void addOutAndLog(List<Part> parts) {
        for (int i = 0; i < 3; i++) {
            int what = i;
            parts.add(new Part("out " + what, x -> each(0, 50, k -> x.out(k, what))));
        }
        for (int j = 0; j < 4; j++) {
            int what = j;
            parts.add(new Part("log " + what, x -> each(0, 33, i -> x.log(i, what))));
        }
    }

    /** Steps of all tasks in turn, then what these put behind THE OUT last. */
    private static long[] steps(KeyGroups x) {
        int tasks = x.told(2);
        long[] keys = each(0, 40, i -> x.step(i % tasks));
        int last = x.told(5) - 1;
        return IntStream.range(0, 43).mapToLong(i -> i < 40 ? keys[i] : x.out(last, i - 40)).toArray();
    }

    private static long[] timers(KeyGroups x, int what) {
        int came = x.tick(1000000);
        return IntStream.range(0, 34).mapToLong(i -> i == 33 ? came : x.log(i, what)).toArray();
    }

    /** The next row, timer, mark: whether there is room, and which numbers they have. */
    private static long[] next(KeyGroups x) {
        return new long[] {x.row(0, 1), x.told(3), x.taskAt(0, 3), x.timer(0, 1000000), x.mark(), x.told(10),
            x.add(0, 1, 1), x.add(0, 2, 1), x.add(0, 3, 1), x.sum(0)};
    }
}
