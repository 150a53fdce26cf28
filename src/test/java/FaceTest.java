import java.lang.reflect.Constructor;
import java.lang.reflect.Field;
import java.lang.reflect.Method;
import java.lang.reflect.Modifier;
import java.nio.file.Files;
import java.nio.file.Path;
import java.util.ArrayList;
import java.util.List;
import java.util.Random;
import java.util.Set;
import java.util.StringJoiner;
import java.util.TreeSet;
import java.util.regex.Matcher;
import java.util.regex.Pattern;

/** The public face, the rules of LANGUAGE.md that can be read off, and that no call ever throws. */
public final class FaceTest {
    private static final Answers A = new Answers("FaceTest");
    private static final String[] FACE = {"int shape(int,int)", "int slack(int)", "int group(int)",
        "int row(int,int)", "int step(int)", "int add(int,int,int)", "int scale(int,int)", "int moved(int)",
        "long least(int)", "int groupAt(int,int)", "int taskAt(int,int)", "int counted(int)", "long sum(int)",
        "int hot(int)", "int timer(int,int)", "int tick(int)", "long out(int,int)", "long log(int,int)",
        "int mark()", "int restore(int,int)", "int digest()", "int told(int)", "int clear()"};
    private static final String[] CONSTANTS = {"UNKNOWN -101", "OUTSIDE -102", "STATE -103", "OLD -104",
        "BEYOND -105", "NONE -106", "ROOM -107"};
    private static final int[] WILD = {Integer.MIN_VALUE, Integer.MIN_VALUE + 1, -1000000, -1001, -1, 0, 1, 2, 3, 4,
        7, 8, 11, 12, 13, 31, 32, 33, 40, 99, 100, 101, 399, 400, 1000, 1001, 999999, 1000000, 1000001,
        Integer.MAX_VALUE - 1, Integer.MAX_VALUE};

    public static void main(String[] args) throws Exception {
        face();
        constants();
        members();
        words();
        neverThrows();
        A.end();
    }

    private static void holds(String what, boolean is) {
        A.due(what, is ? 1 : 0, 1);
    }

    private static void face() {
        Set<String> found = new TreeSet<>();
        for (Method method : KeyGroups.class.getDeclaredMethods()) {
            if (!Modifier.isPrivate(method.getModifiers())) {
                holds(method.getName() + " is public", Modifier.isPublic(method.getModifiers()));
                holds(method.getName() + " is of an object", !Modifier.isStatic(method.getModifiers()));
                found.add(signOf(method));
            }
        }
        holds("the methods are those of the document: " + found, found.equals(new TreeSet<>(List.of(FACE))));
        Constructor<?>[] constructors = KeyGroups.class.getDeclaredConstructors();
        A.due("constructors", constructors.length, 1);
        A.due("parameters of the constructor", constructors[0].getParameterCount(), 0);
        holds("the constructor is public", Modifier.isPublic(constructors[0].getModifiers()));
        holds("the class is public", Modifier.isPublic(KeyGroups.class.getModifiers()));
        holds("the class is final", Modifier.isFinal(KeyGroups.class.getModifiers()));
    }

    private static String signOf(Method method) {
        StringJoiner parameters = new StringJoiner(",", "(", ")");
        for (Class<?> type : method.getParameterTypes()) {
            parameters.add(type.getName());
        }
        return method.getReturnType().getName() + " " + method.getName() + parameters;
    }

    private static void constants() throws IllegalAccessException {
        Set<String> found = new TreeSet<>();
        for (Field field : KeyGroups.class.getDeclaredFields()) {
            if (!Modifier.isPrivate(field.getModifiers())) {
                holds(field.getName() + " is a constant", Modifier.isPublic(field.getModifiers())
                    && Modifier.isStatic(field.getModifiers()) && Modifier.isFinal(field.getModifiers()));
                found.add(field.getName() + " " + field.getInt(null));
            }
        }
        holds("the constants are those of the document: " + found, found.equals(new TreeSet<>(List.of(CONSTANTS))));
    }

    private static void members() {
        Set<String> publicNames = new TreeSet<>();
        for (String sign : FACE) {
            publicNames.add(sign.substring(sign.indexOf(' ') + 1, sign.indexOf('(')));
        }
        Class<?>[] inside = KeyGroups.class.getDeclaredClasses();
        holds("at most twelve classes", inside.length < 12);
        List<Class<?>> all = new ArrayList<>(List.of(inside));
        all.add(KeyGroups.class);
        for (Class<?> one : all) {
            membersOf(one, publicNames);
        }
    }

    private static void membersOf(Class<?> one, Set<String> publicNames) {
        holds(one.getName() + " is static", one == KeyGroups.class || Modifier.isStatic(one.getModifiers()));
        int fields = 0;
        for (Field field : one.getDeclaredFields()) {
            if (Modifier.isStatic(field.getModifiers())) {
                holds(field.getName() + " is final", Modifier.isFinal(field.getModifiers()));
            } else {
                fields++;
            }
        }
        holds(one.getName() + " has at most twenty fields", fields <= 20);
        for (Method method : one.getDeclaredMethods()) {
            holds(method.getName() + " takes at most seven", method.getParameterCount() <= 7);
            boolean ofFace = one == KeyGroups.class && Modifier.isPublic(method.getModifiers());
            holds(method.getName() + " is no name of the face", ofFace || !publicNames.contains(method.getName()));
        }
    }

    private static void words() throws Exception {
        String text = Files.readString(Path.of("src/main/java/KeyGroups.java"));
        String code = text.replaceAll("(?s)/\\*.*?\\*/", " ").replaceAll("//[^\n]*", " ");
        String[] banned = {"\\bthrows?\\b", "\\btry\\b", "\\bcatch\\b", "\\bsynchronized\\b", "\\bassert\\b", "->",
            "::", "\\bpackage\\b", "Exact\\b", "\\bRandom\\b"};
        for (String word : banned) {
            holds("no " + word, !Pattern.compile(word).matcher(code).find());
        }
        Matcher imports = Pattern.compile("import ([\\w.]+);").matcher(code);
        while (imports.find()) {
            holds("import of " + imports.group(1), imports.group(1).equals("java.util.Arrays"));
        }
        holds("characters 0 to 255", text.chars().allMatch(c -> c < 256));
    }

    /** Also beyond the 512 calls that are promised: an answer is free there, a throw is not. */
    private static void neverThrows() throws Exception {
        List<Method> methods = new ArrayList<>();
        for (String sign : FACE) {
            String name = sign.substring(sign.indexOf(' ') + 1, sign.indexOf('('));
            for (Method method : KeyGroups.class.getDeclaredMethods()) {
                if (method.getName().equals(name)) {
                    methods.add(method);
                }
            }
        }
        Random random = new Random(1);
        for (int run = 0; run < 20; run++) {
            KeyGroups x = new KeyGroups();
            for (int call = 0; call < 20000; call++) {
                wildCall(x, methods.get(random.nextInt(methods.size())), random, run % 2 == 0);
            }
        }
        holds("no call threw", true);
    }

    private static void wildCall(KeyGroups x, Method method, Random random, boolean seldomCleared) throws Exception {
        if (method.getName().equals("clear") && seldomCleared && random.nextInt(200) != 0) {
            return;
        }
        Object[] numbers = new Object[method.getParameterCount()];
        for (int i = 0; i < numbers.length; i++) {
            numbers[i] = random.nextInt(3) == 0 ? WILD[random.nextInt(WILD.length)] : random.nextInt(12);
        }
        method.invoke(x, numbers);
    }
}
