import java.io.IOException;
import java.lang.reflect.Field;
import java.lang.reflect.Method;
import java.lang.reflect.Modifier;
import java.nio.file.Files;
import java.nio.file.Path;
import java.util.ArrayDeque;
import java.util.Deque;
import java.util.List;
import java.util.Set;
import java.util.regex.Matcher;
import java.util.regex.Pattern;

/** The rules of ../shared/LANGUAGE.md that a program can look after, each under its number. */
public final class LanguageTest {
    private static final Due due = new Due();
    private static final Set<Class<?>> PLAIN = Set.of(int.class, long.class, short.class, byte.class,
        char.class, boolean.class, double.class, float.class, String.class);
    private static final Set<Class<?>> CONSTANT = Set.of(int.class, long.class, boolean.class, char.class,
        String.class, int[].class, long[].class, char[].class, byte[].class);
    /**
     * What no line may hold, with the rule that says so; comments and texts are taken out before. The
     * rules leave a try round calls that throw: the class needs none, and so no catch can go wrong.
     */
    private static final String[][] NEVER = {
        {"1", "\\bpackage\\b"},
        {"2", "->|::"},
        {"3", "\\bvar\\b|\\b(Object|Long|Double|Float|Boolean|Character|Map|Set)\\b(?!\\.)"},
        {"4", "\\bSystem\\.(?!arraycopy\\b)|\\bArrays\\.(?!(copyOf|copyOfRange|fill)\\b)|\\bStrictMath\\b"},
        {"4", "Exact\\b|\\b(Double|Float|Character|Boolean|Objects|Collections|Runtime|Thread)\\."},
        {"5", "\\bstatic\\s*\\{"},
        {"6", "\\b(finally|try|catch|synchronized|assert)\\b"},
        {"6", "\\.(equals|hashCode|toString|getMessage)\\("},
        {"6", "\\bthrow\\b(?! new (IllegalStateException|IllegalArgumentException|IndexOutOfBoundsException)\\(\"\"\\);)"},
        {"9", "while \\(true\\)|for \\(;;\\)"},
        {"10", "\"\" \\+|\\+ \"\"|\\+= \"\""},
        {"12", "\\bvalues\\(\\)"},
        {"13", "\\b(nanoTime|currentTimeMillis|Random|random)\\b"},
    };

    public static void main(String[] args) throws IOException {
        String text = Files.readString(Path.of("src/main/java/TestSlots.java"));
        due.holds("4: a sign that is not 1 to 127", text.chars().allMatch(c -> c >= 1 && c <= 127));
        String code = bare(text);
        imports(code);
        never(code);
        methodsAreShort(code);
        due.holds("11: more than twelve classes", shapes(TestSlots.class) <= 12);
        due.end();
    }

    /** The code without comments, texts emptied and signs put as '?', with its lines kept. */
    private static String bare(String text) {
        Matcher m = Pattern.compile("/\\*.*?\\*/|//[^\\n]*|\"(\\\\.|[^\"\\\\])*\"|'(\\\\.|[^'\\\\])'", Pattern.DOTALL)
            .matcher(text);
        return m.replaceAll(r -> switch (r.group().charAt(0)) {
            case '"' -> "\"\"";
            case '\'' -> "'?'";
            default -> r.group().replaceAll("[^\\n]", "");
        });
    }

    private static void imports(String code) {
        Set<String> fine = Set.of("java.util.ArrayList", "java.util.List", "java.util.Arrays", "java.util.Iterator",
            "java.util.NoSuchElementException");
        Matcher m = Pattern.compile("(?m)^import ([^;]*);").matcher(code);
        while (m.find()) {
            due.holds("4: import " + m.group(1), fine.contains(m.group(1)));
        }
        due.holds("4: a library's class by its whole name",
            !Pattern.compile("(?m)^(?!import).*\\bjava\\.").matcher(code).find());
    }

    private static void never(String code) {
        List<String> lines = code.lines().toList();
        for (String[] rule : NEVER) {
            Pattern banned = Pattern.compile(rule[1]);
            for (int i = 0; i < lines.size(); i++) {
                due.holds(rule[0] + ": line " + (i + 1) + ": " + lines.get(i).strip(),
                    !banned.matcher(lines.get(i)).find());
            }
        }
    }

    /** A method is looked at as one block among its own smaller ones, which are shorter anyway. */
    private static void methodsAreShort(String code) {
        List<String> lines = code.lines().toList();
        Deque<Integer> opened = new ArrayDeque<>();
        for (int i = 0; i < lines.size(); i++) {
            for (char c : lines.get(i).toCharArray()) {
                if (c == '{') {
                    opened.push(i);
                } else if (c == '}') {
                    int first = opened.pop();
                    boolean isClass = lines.get(first).contains("class ");
                    due.holds("11: the lines " + (first + 1) + " to " + (i + 1), isClass || i - first <= 60);
                }
            }
        }
        due.holds("every brace is closed", opened.isEmpty());
    }

    /** Looks at the class and those inside it; answers how many they are. */
    private static int shapes(Class<?> c) {
        int fields = 0;
        for (Field f : c.getDeclaredFields()) {
            boolean isStatic = Modifier.isStatic(f.getModifiers());
            String name = c.getSimpleName() + "." + f.getName();
            due.holds("5: " + name, !isStatic || Modifier.isFinal(f.getModifiers()) && CONSTANT.contains(f.getType()));
            due.holds("3: " + name, isStatic || isFine(f.getType()));
            fields += isStatic ? 0 : 1;
        }
        due.holds("11: the fields of " + c.getSimpleName(), fields <= 20);
        for (Method m : c.getDeclaredMethods()) {
            due.holds("11: the parameters of " + m.getName(), m.getParameterCount() <= 7);
        }
        int classes = 1;
        for (Class<?> inside : c.getDeclaredClasses()) {
            int kind = inside.getModifiers();
            due.holds("1: " + inside.getSimpleName(), Modifier.isStatic(kind)
                && !Modifier.isPublic(kind) && !Modifier.isProtected(kind));
            classes += shapes(inside);
        }
        return classes;
    }

    private static boolean isFine(Class<?> type) {
        Class<?> one = type.isArray() ? type.getComponentType() : type;
        boolean isOwn = one.getName().startsWith("TestSlots");
        boolean isRowOfNumbers = type.isArray() && one.isArray() && one.getComponentType().isPrimitive();
        return PLAIN.contains(one) || isOwn || isRowOfNumbers;
    }
}
