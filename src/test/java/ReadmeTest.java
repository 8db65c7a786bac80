import java.io.IOException;
import java.lang.reflect.InvocationTargetException;
import java.lang.reflect.Method;
import java.nio.file.Files;
import java.nio.file.Path;
import java.util.Set;
import java.util.TreeSet;
import java.util.regex.Matcher;
import java.util.regex.Pattern;

/** The calls that README.md shows, made one behind the other: each answers as is said there, and none is left out. */
public final class ReadmeTest {
    /** A call, and behind it what it answers: a number, an exception's name, or for a void one neither. */
    private static final Pattern CALL =
            Pattern.compile("x\\.(\\w+)\\(([^)]*)\\);\\s*// (?:(-?\\d+|\\w+Exception)(?:: |$))?.*");

    private static int failures = 0;

    public static void main(String[] args) throws IOException {
        ShadowFiles x = new ShadowFiles();
        Set<String> shown = new TreeSet<>();
        boolean inside = false;
        for (String line : Files.readAllLines(Path.of("README.md"))) {
            if (line.startsWith("```")) {
                inside = line.equals("```java");
            } else if (inside && line.startsWith("x.")) {
                check(x, line, shown);
            }
        }
        for (Method method : ShadowFiles.class.getMethods()) {
            if (method.getDeclaringClass() == ShadowFiles.class && !shown.contains(method.getName())) {
                fail("no call of " + method.getName() + " is shown");
            }
        }
        System.out.println(shown.size() + " methods are shown in README.md, " + failures + " faults");
        if (failures != 0) {
            System.exit(1);
        }
    }

    private static void check(ShadowFiles x, String line, Set<String> shown) {
        Matcher call = CALL.matcher(line);
        if (!call.matches()) {
            fail("a call without what it answers: " + line);
            return;
        }
        shown.add(call.group(1));
        String due = call.group(3) == null ? "nothing" : call.group(3);
        String answer = answer(x, call.group(1), call.group(2).isEmpty() ? new String[0] : call.group(2).split(", "));
        if (!answer.equals(due)) {
            fail("answered " + answer + ": " + line);
        }
    }

    private static String answer(ShadowFiles x, String name, String[] written) {
        for (Method method : ShadowFiles.class.getMethods()) {
            if (method.getName().equals(name) && method.getParameterCount() == written.length) {
                return answer(x, method, written);
            }
        }
        return "no such method";
    }

    private static String answer(ShadowFiles x, Method method, String[] written) {
        Object[] arguments = new Object[written.length];
        for (int k = 0; k < written.length; k++) {
            long number = Long.decode(written[k].replace("L", ""));
            if (method.getParameterTypes()[k] == long.class) {
                arguments[k] = number;
            } else {
                arguments[k] = (int) number;
            }
        }
        try {
            Object answer = method.invoke(x, arguments);
            return answer == null ? "nothing" : answer.toString();
        } catch (InvocationTargetException e) {
            return e.getCause().getClass().getSimpleName();
        } catch (IllegalAccessException e) {
            return e.toString();
        }
    }

    private static void fail(String what) {
        failures++;
        System.out.println(what);
    }
}
