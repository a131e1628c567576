import java.lang.reflect.InvocationTargetException;
import java.lang.reflect.Method;
import java.lang.reflect.Modifier;
import java.nio.file.Files;
import java.nio.file.Path;
import java.util.Set;
import java.util.TreeSet;
import java.util.regex.Matcher;
import java.util.regex.Pattern;

/** README.md: its example is made call by call, and its table has every call of the face. */
public final class ReadmeTest {

    private static final Pattern NEW_OBJECT = Pattern.compile("LogForward log = new LogForward\\((-?\\d+)\\);.*");
    private static final Pattern CALL = Pattern.compile("log\\.(\\w+)\\((.*?)\\); +// (throws \\w+|[^:]+).*");

    private final Set<String> called = new TreeSet<>();
    private LogForward log = null;

    public static void main(String[] args) throws Exception {
        String readme = Files.readString(Path.of("README.md"));
        new ReadmeTest().example(readme);
        for (String call : FaceTest.callsOfTheDocument()) {
            Check.due("the table has " + call, readme.contains("\n| `" + call + "` |"), true);
        }
        Check.end();
    }

    private void example(String readme) throws Exception {
        int start = readme.indexOf("```java\n");
        int end = readme.indexOf("\n```\n", start);
        if (start < 0 || end < 0) {
            Check.failed("README.md has no example");
            return;
        }
        for (String line : readme.substring(start + "```java\n".length(), end).split("\n")) {
            if (!line.startsWith(" ")) {
                follow(line);
            }
        }
        for (Method method : LogForward.class.getDeclaredMethods()) {
            if (Modifier.isPublic(method.getModifiers())) {
                Check.due("the example calls " + method.getName(), called.contains(method.getName()), true);
            }
        }
    }

    private void follow(String line) throws Exception {
        Matcher made = NEW_OBJECT.matcher(line);
        Matcher call = CALL.matcher(line);
        if (made.matches()) {
            log = new LogForward(Integer.parseInt(made.group(1)));
        } else if (call.matches()) {
            called.add(call.group(1));
            String got = answer(call.group(1), call.group(2));
            if (!got.equals(call.group(3))) {
                Check.failed("answered " + got + ": " + line);
            }
        } else {
            Check.failed("neither a new object nor a call with its answer: " + line);
        }
    }

    private String answer(String name, String arguments) throws Exception {
        for (Method method : LogForward.class.getMethods()) {
            if (method.getName().equals(name)) {
                try {
                    return String.valueOf(method.invoke(log, values(arguments)));
                } catch (InvocationTargetException thrown) {
                    return "throws " + thrown.getCause().getClass().getSimpleName();
                }
            }
        }
        return "no such method";
    }

    private static Object[] values(String arguments) {
        if (arguments.isEmpty()) {
            return new Object[0];
        }
        String[] parts = arguments.split(", ");
        Object[] values = new Object[parts.length];
        for (int i = 0; i < parts.length; i++) {
            values[i] = value(parts[i]);
        }
        return values;
    }

    private static Object value(String text) {
        if (text.equals("true") || text.equals("false")) {
            return text.equals("true");
        }
        return text.endsWith("L") ? (Object) Long.parseLong(text.substring(0, text.length() - 1))
            : (Object) Integer.parseInt(text);
    }
}
