import java.lang.reflect.InvocationTargetException;
import java.lang.reflect.Method;
import java.util.Map;
import java.util.TreeMap;

/** Boundary cases: each method marked with a sentence of the document is a test of its own. */
abstract class Edges extends Desks {
    final Due due = new Due(getClass().getSimpleName());

    /** Runs each of the class's tests; one that holds no answer counts as wrong. */
    final void holdEachSentence() throws IllegalAccessException, InvocationTargetException {
        Map<String, Method> tests = new TreeMap<>();
        for (Method method : getClass().getDeclaredMethods()) {
            if (method.isAnnotationPresent(Sentence.class)) {
                tests.put(method.getName(), method);
            }
        }
        for (Method test : tests.values()) {
            due.begin(test.getName() + " \"" + test.getAnnotation(Sentence.class).value() + "\"");
            int before = due.held();
            test.invoke(this);
            due.is("holds an answer", due.held() > before, true);
        }
        System.out.println(getClass().getSimpleName() + ": " + tests.size() + " sentences");
        due.begin("all");
        due.is("has sentences", !tests.isEmpty(), true);
        due.end();
    }
}
