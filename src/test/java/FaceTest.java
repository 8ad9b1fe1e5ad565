import java.lang.reflect.Constructor;
import java.lang.reflect.Field;
import java.lang.reflect.Method;
import java.lang.reflect.Modifier;
import java.util.Set;
import java.util.TreeSet;

/** The class shows just the face of the document, with the throws clauses in its order. */
public final class FaceTest {
    private static final String BOUNDS = "IndexOutOfBoundsException";
    private static final String STATE = "IllegalStateException";
    private static final String ARGUMENT = "IllegalArgumentException";
    private static final String[] FACE = {
        "int addExaminer() " + STATE,
        "int addPupil() " + STATE,
        "int ask(int) " + BOUNDS + " " + STATE,
        "int quit(int) " + BOUNDS + " " + STATE,
        "int cancel(int,int) " + BOUNDS + " " + ARGUMENT,
        "int test(int,boolean) " + BOUNDS + " " + STATE,
        "int next() " + STATE,
        "int set(int,int) " + BOUNDS + " " + ARGUMENT,
        "int append(int) " + ARGUMENT + " " + STATE,
        "int clearBuffer()",
        "int firstError()",
        "int run() " + ARGUMENT,
        "int undo() " + STATE,
        "int pupil(int,int) " + BOUNDS + " " + ARGUMENT,
        "int examiner(int,int) " + BOUNDS + " " + ARGUMENT,
        "int slot(int,int,int) " + BOUNDS + " " + ARGUMENT,
        "int count(int) " + ARGUMENT,
        "int setting(int) " + BOUNDS,
        "int earliest(int,int) " + BOUNDS + " " + ARGUMENT,
        "int ifCancelled(int,int,int) " + BOUNDS + " " + ARGUMENT,
        "int ifTested(int,int) " + BOUNDS,
        "int couldHave(int) " + ARGUMENT,
        "double passedShare()",
        "long digest()",
    };

    public static void main(String[] args) {
        Due due = new Due();
        Class<?> c = TestSlots.class;
        due.holds("the class is public and final", (c.getModifiers() & (Modifier.PUBLIC | Modifier.FINAL))
            == (Modifier.PUBLIC | Modifier.FINAL));

        Set<String> wanted = new TreeSet<>(Set.of(FACE));
        Set<String> names = new TreeSet<>();
        for (Method m : c.getDeclaredMethods()) {
            if (!Modifier.isPrivate(m.getModifiers())) {
                due.holds("not of the face: " + told(m), wanted.remove(told(m)));
                due.holds("not an instance's: " + told(m), !Modifier.isStatic(m.getModifiers()));
                names.add(m.getName());
            }
        }
        due.holds("missing: " + wanted, wanted.isEmpty());
        for (Method m : c.getDeclaredMethods()) {
            due.holds("a private method bears a public one's name: " + m.getName(),
                !Modifier.isPrivate(m.getModifiers()) || !names.contains(m.getName()));
        }
        for (Field f : c.getDeclaredFields()) {
            due.holds("not of the face: " + f.getName(),
                Modifier.isPrivate(f.getModifiers()) || f.getName().equals("NONE"));
            due.holds("static, but not final: " + f.getName(),
                !Modifier.isStatic(f.getModifiers()) || Modifier.isFinal(f.getModifiers()));
        }
        Constructor<?>[] made = c.getDeclaredConstructors();
        due.holds("one public constructor without parameters", made.length == 1
            && made[0].getParameterCount() == 0 && Modifier.isPublic(made[0].getModifiers()));
        due.end();
    }

    private static String told(Method m) {
        StringBuilder text = new StringBuilder();
        text.append(m.getReturnType()).append(' ').append(m.getName()).append('(');
        for (int i = 0; i < m.getParameterCount(); i++) {
            text.append(i == 0 ? "" : ",").append(m.getParameterTypes()[i]);
        }
        text.append(')');
        for (Class<?> e : m.getExceptionTypes()) {
            text.append(' ').append(e.getSimpleName());
        }
        return text.toString();
    }
}
