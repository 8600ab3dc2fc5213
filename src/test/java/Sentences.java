import java.io.IOException;
import java.lang.reflect.InvocationTargetException;
import java.lang.reflect.Method;
import java.util.ArrayList;
import java.util.Comparator;
import java.util.List;
import java.util.Map;

/** Runs tests that each look at some words of the document, and looks that these words stand there. */
final class Sentences {
    private Sentences() {
    }

    static List<Method> testsIn(Class<?> c) {
        List<Method> tests = new ArrayList<>();
        for (Method m : c.getDeclaredMethods()) {
            if (m.isAnnotationPresent(Says.class)) {
                tests.add(m);
            }
        }
        tests.sort(Comparator.comparing(Method::getName));
        return tests;
    }

    static void run(Class<?> c) throws IOException {
        Map<String, String> document = Doc.parts();
        int answers = 0;
        int wrong = 0;
        for (Method test : testsIn(c)) {
            Says says = test.getAnnotation(Says.class);
            Check due = new Check(c.getSimpleName() + "." + test.getName() + ", " + says.in() + ": " + says.words());
            due.yes("stands in the document", document.getOrDefault(says.in(), "").contains(says.words()));
            int before = due.madeOnes();
            runOne(test, due);
            due.yes("looks at an answer", due.madeOnes() > before);
            answers += due.madeOnes();
            wrong += due.wrongOnes();
        }
        System.out.println(c.getSimpleName() + ": " + testsIn(c).size() + " sentences, " + answers + " answers, "
                + wrong + " wrong");
        if (wrong != 0) {
            System.exit(1);
        }
    }

    private static void runOne(Method test, Check due) {
        try {
            test.setAccessible(true);
            test.invoke(null, due);
        } catch (InvocationTargetException e) {
            due.same("the test", "throws " + e.getCause(), "ends");
        } catch (IllegalAccessException e) {
            throw new AssertionError(e);
        }
    }
}
