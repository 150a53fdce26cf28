import java.util.function.Supplier;

/** One number of a call: asks for the last that is taken and the first that is refused, each of a new object. */
final class Edge {
    interface Call {
        long of(KeyGroups x, int number);
    }

    private final Answers answers;
    private final String call;
    private final Supplier<KeyGroups> made;
    private final Call asked;

    Edge(Answers answers, String call, Supplier<KeyGroups> made, Call asked) {
        this.answers = answers;
        this.call = call;
        this.made = made;
        this.asked = asked;
    }

    /** The lowest number that is taken, with its answer, and how all below are refused. */
    Edge from(int lowest, long due, long refusal) {
        ask(lowest, due);
        ask(lowest - 1, refusal);
        ask(Integer.MIN_VALUE, refusal);
        return this;
    }

    /** The highest number that is taken, with its answer, and how all above are refused. */
    Edge to(int highest, long due, long refusal) {
        ask(highest, due);
        ask(highest + 1, refusal);
        ask(Integer.MAX_VALUE, refusal);
        return this;
    }

    private void ask(int number, long due) {
        answers.due(call + " of " + number, asked.of(made.get(), number), due);
    }
}
