import java.io.IOException;
import java.lang.reflect.InvocationTargetException;
import java.lang.reflect.Method;
import java.lang.reflect.Modifier;
import java.nio.file.Files;
import java.nio.file.Path;
import java.util.HashMap;
import java.util.List;
import java.util.Map;
import java.util.TreeSet;
import java.util.regex.Matcher;
import java.util.regex.Pattern;

/** The README's example answers what it says behind each call; run from the project's folder. */
public final class ReadmeTest {
    private static final Path README = Path.of("README.md");
    private static final Pattern CALL =
            Pattern.compile("(?:int (\\w+) = )?desk\\.(\\w+)\\(([^()]*)\\); +// (-?\\d+|NONE|STALE|true|false)\\b.*");

    private final Due due = new Due("ReadmeTest");
    private final TightDesk desk = new TightDesk();
    private final Map<String, Integer> named = new HashMap<>();
    private final TreeSet<String> called = new TreeSet<>();

    public static void main(String[] args) throws IOException, ReflectiveOperationException {
        new ReadmeTest().holdExample();
    }

    private void holdExample() throws IOException, ReflectiveOperationException {
        for (String line : exampleLines()) {
            Matcher call = CALL.matcher(line);
            if (call.matches()) {
                hold(line, call);
            } else {
                boolean other = line.isEmpty() || line.equals("TightDesk desk = new TightDesk();");
                due.is("a call with its answer: " + line, other, true);
            }
        }
        for (Method method : TightDesk.class.getDeclaredMethods()) {
            boolean known = !Modifier.isPublic(method.getModifiers()) || called.contains(method.getName());
            due.is("shows " + method.getName(), known, true);
        }
        due.end();
    }

    private static List<String> exampleLines() throws IOException {
        String text = Files.readString(README);
        int begin = text.indexOf("```java\n") + "```java\n".length();
        return text.substring(begin, text.indexOf("```", begin)).lines().toList();
    }

    private void hold(String line, Matcher call) throws IllegalAccessException, InvocationTargetException {
        int answer = answerOf(call.group(2), call.group(3));
        due.is(line, answer, numberOf(call.group(4)));
        if (call.group(1) != null) {
            named.put(call.group(1), answer);
        }
    }

    private int answerOf(String name, String arguments) throws IllegalAccessException, InvocationTargetException {
        String[] written = arguments.isEmpty() ? new String[0] : arguments.split(", ");
        Object[] values = new Object[written.length];
        for (int i = 0; i < written.length; i++) {
            values[i] = numberOf(written[i]);
        }
        Object answer = methodOf(name).invoke(desk, values);
        called.add(name);
        return answer instanceof Boolean is ? (is ? 1 : 0) : (Integer) answer;
    }

    private static Method methodOf(String name) {
        for (Method method : TightDesk.class.getMethods()) {
            if (method.getName().equals(name)) {
                return method;
            }
        }
        throw new IllegalStateException("no method " + name);
    }

    private int numberOf(String written) {
        return switch (written) {
            case "NONE" -> TightDesk.NONE;
            case "STALE" -> TightDesk.STALE;
            case "true" -> 1;
            case "false" -> 0;
            default -> named.containsKey(written) ? named.get(written) : Integer.parseInt(written);
        };
    }
}
