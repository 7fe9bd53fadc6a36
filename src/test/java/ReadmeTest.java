import java.io.IOException;
import java.lang.reflect.InvocationTargetException;
import java.lang.reflect.Method;
import java.lang.reflect.Modifier;
import java.nio.file.Files;
import java.nio.file.Path;
import java.util.ArrayList;
import java.util.HashMap;
import java.util.List;
import java.util.Map;
import java.util.Set;
import java.util.TreeSet;
import java.util.regex.Matcher;
import java.util.regex.Pattern;

/** The examples of README.md: each is called as it stands there, and must answer as its comment says. */
public final class ReadmeTest {
    private static final Pattern MADE = Pattern.compile("LiftRows2 (\\w+) = new LiftRows2\\((\\d+)\\); *//.*");
    private static final Pattern CALLED =
            Pattern.compile("(?:int (\\w+) = )?(\\w+)\\.(\\w+)\\(([^()]*)\\); *// (.*)");
    private static final Pattern ANSWER = Pattern.compile("(-?\\d+|true|false|throws \\w+)(:.*)?");

    private final Map<String, Object> named = new HashMap<>();
    private final Set<String> used = new TreeSet<>();

    public static void main(String[] args) throws IOException, IllegalAccessException {
        List<String> readme = Files.readAllLines(Path.of("README.md"));
        ReadmeTest test = new ReadmeTest();
        for (String line : examples(readme)) {
            test.follow(line);
        }
        Due.same("the calls of which README.md has an example", face().toString(), test.used.toString());
        Due.holds("README.md tells the command that runs all tests", readme.contains("    .ci/run"));
        Due.end();
    }

    private static List<String> examples(List<String> readme) {
        List<String> found = new ArrayList<>();
        boolean inside = false;
        for (String line : readme) {
            if (line.startsWith("```")) {
                inside = line.equals("```java");
            } else if (inside && !line.isBlank()) {
                found.add(line);
            }
        }
        return found;
    }

    private static Set<String> face() {
        Set<String> names = new TreeSet<>();
        for (Method method : LiftRows2.class.getDeclaredMethods()) {
            if (Modifier.isPublic(method.getModifiers())) {
                names.add(method.getName());
            }
        }
        return names;
    }

    private void follow(String line) throws IllegalAccessException {
        Matcher made = MADE.matcher(line);
        Matcher called = CALLED.matcher(line);
        if (made.matches()) {
            named.put(made.group(1), new LiftRows2(Integer.parseInt(made.group(2))));
        } else if (called.matches()) {
            Object got = answer(named.get(called.group(2)), called.group(3), called.group(4));
            Due.same(line, dueBy(called.group(5)), String.valueOf(got));
            if (called.group(1) != null) {
                named.put(called.group(1), got);
            }
        } else {
            Due.holds("an example of a form that this test knows: " + line, false);
        }
    }

    /** A comment that begins with no answer is that of a call that gives none. */
    private static String dueBy(String comment) {
        Matcher answer = ANSWER.matcher(comment);
        return answer.matches() ? answer.group(1) : "null";
    }

    private Object answer(Object x, String name, String arguments) throws IllegalAccessException {
        used.add(name);
        try {
            return method(name).invoke(x, values(arguments));
        } catch (InvocationTargetException e) {
            return "throws " + e.getCause().getClass().getSimpleName();
        }
    }

    private static Method method(String name) {
        for (Method method : LiftRows2.class.getMethods()) {
            if (method.getName().equals(name)) {
                return method;
            }
        }
        throw new IllegalStateException("README.md has a call that the class has not: " + name);
    }

    private Object[] values(String arguments) {
        List<Object> values = new ArrayList<>();
        for (String argument : arguments.isEmpty() ? new String[0] : arguments.split(", ")) {
            if (named.containsKey(argument)) {
                values.add(named.get(argument));
            } else if (argument.equals("true") || argument.equals("false")) {
                values.add(Boolean.valueOf(argument));
            } else {
                values.add(Integer.valueOf(argument));
            }
        }
        return values.toArray();
    }
}
