import java.lang.reflect.Constructor;
import java.lang.reflect.Field;
import java.lang.reflect.Method;
import java.lang.reflect.Modifier;
import java.util.Arrays;
import java.util.TreeSet;

/** The public face is the document's, whole, and there is no other. */
public final class FaceTest {
    private static final String[] METHODS = {
        "int task(int)", "int constrain(int,int,int)", "boolean drop(int)", "int worker()",
        "boolean skill(int,int)", "int solve()", "int start(int,int)", "int length()",
        "int row(int,int)", "int delay(int,int)", "int busy(int)", "int peak(int)",
        "int assign(int)", "int workerOf(int)", "int cover(int,int)", "int check(int)",
        "int count(int)"
    };

    public static void main(String[] args) {
        Due due = new Due("FaceTest");
        due.is("NONE", TightDesk.NONE, -1);
        due.is("STALE", TightDesk.STALE, -2);
        due.is("the class is final", Modifier.isFinal(TightDesk.class.getModifiers()), true);
        due.is("the class is public", Modifier.isPublic(TightDesk.class.getModifiers()), true);
        holdMethods(due);
        holdFields(due);
        holdConstructors(due);
        holdClassesInside(due);
        due.end();
    }

    private static void holdMethods(Due due) {
        TreeSet<String> wanted = new TreeSet<>(Arrays.asList(METHODS));
        TreeSet<String> names = publicNames();
        TreeSet<String> seen = new TreeSet<>();
        for (Method method : TightDesk.class.getDeclaredMethods()) {
            if (Modifier.isPrivate(method.getModifiers())) {
                due.is("private " + method.getName() + " bears a public name", names.contains(method.getName()), false);
            } else {
                due.is("public " + method, Modifier.isPublic(method.getModifiers()), true);
                seen.add(written(method));
            }
        }
        for (String method : wanted) {
            due.is("has " + method, seen.contains(method), true);
        }
        due.is("methods", seen.size(), wanted.size());
    }

    private static TreeSet<String> publicNames() {
        TreeSet<String> names = new TreeSet<>();
        for (String method : METHODS) {
            names.add(method.substring(method.indexOf(' ') + 1, method.indexOf('(')));
        }
        return names;
    }

    private static String written(Method method) {
        StringBuilder text = new StringBuilder();
        for (Class<?> type : method.getParameterTypes()) {
            text.append(text.length() == 0 ? "" : ",").append(type.getName());
        }
        return method.getReturnType().getName() + " " + method.getName() + "(" + text + ")";
    }

    private static void holdFields(Due due) {
        TreeSet<String> seen = new TreeSet<>();
        for (Field field : TightDesk.class.getDeclaredFields()) {
            int modifiers = field.getModifiers();
            if (Modifier.isStatic(modifiers)) {
                due.is("static " + field.getName() + " is final", Modifier.isFinal(modifiers), true);
            }
            if (!Modifier.isPrivate(modifiers)) {
                seen.add(field.getName());
            }
        }
        due.is("NONE and STALE alone", seen.equals(new TreeSet<>(Arrays.asList("NONE", "STALE"))), true);
    }

    private static void holdConstructors(Due due) {
        Constructor<?>[] constructors = TightDesk.class.getDeclaredConstructors();
        due.is("constructors", constructors.length, 1);
        due.is("its parameters", constructors[0].getParameterCount(), 0);
        due.is("it is public", Modifier.isPublic(constructors[0].getModifiers()), true);
    }

    private static void holdClassesInside(Due due) {
        for (Class<?> inside : TightDesk.class.getDeclaredClasses()) {
            String name = inside.getSimpleName();
            due.is(name + " is static", Modifier.isStatic(inside.getModifiers()), true);
            due.is(name + " is private", Modifier.isPrivate(inside.getModifiers()), true);
            due.is(name + " has at most twenty fields", inside.getDeclaredFields().length <= 20, true);
            for (Method method : inside.getDeclaredMethods()) {
                due.is(name + "." + method.getName() + " bears a public name", publicNames().contains(method.getName()), false);
            }
        }
    }
}
