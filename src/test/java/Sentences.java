import java.lang.reflect.InvocationTargetException;
import java.lang.reflect.Method;
import java.util.Arrays;
import java.util.Comparator;

/** Runs every test of a class that bears a sentence of the document, so that none is forgotten. */
final class Sentences {
    private Sentences() {
    }

    static void lookAt(Class<?> tests, Due due) {
        Method[] all = tests.getDeclaredMethods();
        Arrays.sort(all, Comparator.comparing(Method::getName));
        int sentences = 0;
        for (Method test : all) {
            Says says = test.getAnnotation(Says.class);
            if (says != null) {
                sentences++;
                due.about(test.getName() + ": \"" + says.value() + "\"");
                run(test, due);
            }
        }
        System.out.println(sentences + " sentences");
        due.end();
    }

    private static void run(Method test, Due due) {
        int before = due.answers();
        try {
            test.invoke(null);
        } catch (InvocationTargetException e) {
            due.tell("threw " + e.getCause());
        } catch (IllegalAccessException e) {
            due.tell("can't be run: " + e);
        }
        due.holds("looks at nothing", due.answers() > before);
    }
}
