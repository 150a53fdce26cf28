import java.util.function.Supplier;

/** Two objects that were made alike, of which one has also answered a call that must leave no trace. */
final class Twins {
    interface Call {
        long on(KeyGroups x);
    }

    private static final int MOST_MARKS = 3;

    private final Answers answers;
    private final String name;
    private final Supplier<KeyGroups> made;

    Twins(Answers answers, String name, Supplier<KeyGroups> made) {
        this.answers = answers;
        this.name = name;
        this.made = made;
    }

    /** The call has this answer, and nothing is seen of it afterwards, nor in what the marks hold. */
    void noTrace(String call, long due, Call asked) {
        String title = name + ": " + call;
        int marks = made.get().told(10);
        for (Looks.Part part : Looks.ALL) {
            KeyGroups one = made.get();
            answers.due(title, asked.on(one), due);
            answers.due(title + " left a trace: " + part.name(), part.look().at(one), part.look().at(made.get()));
            for (int mark = 0; mark < Math.min(marks, MOST_MARKS); mark++) {
                answers.due(title + " left a trace in mark " + mark + ": " + part.name(),
                    restored(asked, mark, part), restored(x -> due, mark, part));
            }
        }
    }

    private long[] restored(Call asked, int mark, Looks.Part part) {
        KeyGroups x = made.get();
        asked.on(x);
        x.restore(mark, 1);
        return part.look().at(x);
    }

    /** Both are the same in all that can be seen. */
    void same(String title, Supplier<KeyGroups> other) {
        for (Looks.Part part : Looks.ALL) {
            answers.due(name + ": " + title + ": " + part.name(), part.look().at(other.get()), part.look().at(made.get()));
        }
    }
}
