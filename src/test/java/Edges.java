import java.io.IOException;
import java.lang.reflect.InvocationTargetException;
import java.lang.reflect.Method;
import java.util.ArrayList;
import java.util.Comparator;
import java.util.List;

/**
 * Runs the tests of single sentences: in a class of them each method with a Sentence is one, is
 * named after its promise and its sentence, and gets a Check of its own.
 */
final class Edges {
    private Edges() {
    }

    static List<Method> testsOf(Class<?> tests) {
        List<Method> methods = new ArrayList<>();
        for (Method m : tests.getDeclaredMethods()) {
            if (m.isAnnotationPresent(Sentence.class)) {
                methods.add(m);
            }
        }
        methods.sort(Comparator.comparing(Method::getName));
        return methods;
    }

    static void run(Class<?> tests, String[] args) throws IOException {
        Document document = Document.besideRoot(args.length > 0 ? args[0] : ".");
        List<Method> methods = testsOf(tests);
        int failed = 0;
        for (Method m : methods) {
            Check check = new Check();
            quote(m, document, check);
            call(m, check);
            if (check.wrongOnes() > 0 || check.askedOnes() == 0) {
                failed++;
                System.out.println("  in " + tests.getName() + "." + m.getName() + ": "
                        + String.join(" / ", m.getAnnotation(Sentence.class).says()));
            }
        }
        System.out.println(tests.getName() + ": " + methods.size() + " sentences, " + failed
                + " broken");
        if (failed > 0 || methods.isEmpty()) {
            System.exit(1);
        }
    }

    /** A sentence that the document does not say is no reason for a test. */
    private static void quote(Method m, Document document, Check check) {
        Sentence sentence = m.getAnnotation(Sentence.class);
        check.dueTrue(m.getName() + " is named after no promise",
                m.getName().matches("promise\\d\\d_\\w+"));
        for (String says : sentence.says()) {
            if (document != null && !document.says(sentence.in(), says)) {
                check.fault("the document does not say in " + sentence.in() + ": " + says);
            }
        }
    }

    private static void call(Method m, Check check) {
        try {
            m.invoke(null, check);
        } catch (InvocationTargetException e) {
            check.fault("throws " + e.getCause() + " at " + e.getCause().getStackTrace()[0]);
        } catch (IllegalAccessException e) {
            check.fault("is not to be called: " + e);
        }
    }
}
