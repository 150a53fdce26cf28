import java.lang.reflect.Field;
import java.lang.reflect.Method;
import java.lang.reflect.Modifier;
import java.nio.file.DirectoryStream;
import java.nio.file.Files;
import java.nio.file.Path;
import java.util.regex.Matcher;
import java.util.regex.Pattern;

/** README.md names every call, constant and test, and its example answers what stands beside each call. */
public final class ReadmeTest {
    private static final Answers A = new Answers("ReadmeTest");
    private static final Pattern CALL = Pattern.compile("x\\.(\\w+)\\(([^)]*)\\);\\s*// (-?\\d+)");
    private static final Pattern ROW = Pattern.compile("(?m)^\\| `(\\w+)\\(([^)]*)\\)` \\|");

    public static void main(String[] args) throws Exception {
        String text = Files.readString(Path.of("README.md"));
        everyCallHasARow(text);
        everyConstantHasARow(text);
        everyTestIsNamed(text);
        theExampleAnswersAsItSays(text);
        A.end();
    }

    private static Method callNamed(String name) {
        for (Method method : KeyGroups.class.getDeclaredMethods()) {
            if (Modifier.isPublic(method.getModifiers()) && method.getName().equals(name)) {
                return method;
            }
        }
        return null;
    }

    private static String[] partsOf(String list) {
        return list.isEmpty() ? new String[0] : list.split(", ");
    }

    private static void everyCallHasARow(String text) {
        int rows = 0;
        Matcher row = ROW.matcher(text);
        while (row.find()) {
            Method method = callNamed(row.group(1));
            A.due(row.group(1) + " is a call", method == null ? 0 : 1, 1);
            if (method != null) {
                A.due("numbers of " + row.group(1), partsOf(row.group(2)).length, method.getParameterCount());
            }
            rows++;
        }
        int calls = 0;
        for (Method method : KeyGroups.class.getDeclaredMethods()) {
            if (Modifier.isPublic(method.getModifiers())) {
                A.due("a row for " + method.getName(), text.contains("| `" + method.getName() + "(") ? 1 : 0, 1);
                calls++;
            }
        }
        A.due("rows of calls", rows, calls);
    }

    private static void everyConstantHasARow(String text) throws IllegalAccessException {
        for (Field field : KeyGroups.class.getDeclaredFields()) {
            if (Modifier.isPublic(field.getModifiers())) {
                String row = "| `KeyGroups." + field.getName() + "` | " + field.getInt(null) + " |";
                A.due("the row " + row, text.contains(row) ? 1 : 0, 1);
            }
        }
    }

    private static void everyTestIsNamed(String text) throws Exception {
        A.due("how to run the tests", text.contains("\n.ci/run\n") ? 1 : 0, 1);
        try (DirectoryStream<Path> tests = Files.newDirectoryStream(Path.of("src/test/java"), "*Test.java")) {
            for (Path test : tests) {
                String name = test.getFileName().toString().replace(".java", "");
                A.due("a row for " + name, text.contains("| `" + name + "` |") ? 1 : 0, 1);
            }
        }
    }

    private static void theExampleAnswersAsItSays(String text) throws Exception {
        String fence = "```java\n";
        int first = text.indexOf(fence);
        A.due("an example", first >= 0 ? 1 : 0, 1);
        if (first < 0) {
            return;
        }
        String example = text.substring(first + fence.length(), text.indexOf("```", first + fence.length()));
        KeyGroups x = new KeyGroups();
        int asked = 0;
        for (String line : example.split("\n")) {
            Matcher call = CALL.matcher(line);
            if (call.find()) {
                ask(x, call.group(1), partsOf(call.group(2)), Long.parseLong(call.group(3)));
                asked++;
            }
        }
        // The first line makes the object; every other one is a call with its answer.
        A.due("calls of the example with an answer", asked, example.split("\n").length - 1);
    }

    private static void ask(KeyGroups x, String name, String[] numbers, long want) throws Exception {
        Method method = callNamed(name);
        A.due(name + " is a call", method == null ? 0 : 1, 1);
        if (method == null) {
            return;
        }
        Object[] given = new Object[numbers.length];
        for (int i = 0; i < numbers.length; i++) {
            given[i] = Integer.valueOf(numbers[i]);
        }
        Number got = (Number) method.invoke(x, given);
        A.due("the example's " + name + "(" + String.join(", ", numbers) + ")", got.longValue(), want);
    }
}
