import java.io.IOException;
import java.lang.reflect.InvocationTargetException;
import java.lang.reflect.Method;
import java.lang.reflect.Modifier;
import java.nio.file.Files;
import java.nio.file.Path;
import java.util.Arrays;
import java.util.HashMap;
import java.util.Map;
import java.util.Set;
import java.util.TreeMap;
import java.util.TreeSet;
import java.util.regex.Matcher;
import java.util.regex.Pattern;

/** README.md answers for what it tells: its example is run, and each method with its exceptions has a heading there. */
public final class ReadmeTests {
    private static final Path README = Path.of("README.md");
    private static final Pattern EXAMPLE = Pattern.compile("(?s)```java\n(.*?)```");
    private static final Pattern CALL =
        Pattern.compile("(?:int (\\w+) = )?locks\\.(\\w+)\\(([^)]*)\\);(?:\\s*// (?:throws )?(-?\\w+).*)?");
    private static final Pattern HEADING = Pattern.compile("#### `(\\w+)\\(([^)]*)\\)`");
    private static final Pattern EXCEPTION = Pattern.compile("- `(\\w+Exception)`");
    private static final String NO_ANSWER = "nothing";

    private static final Checks check = new Checks();

    public static void main(String[] args) throws IOException, ReflectiveOperationException {
        String text = Files.readString(README);
        example(text);
        headings(text);
        constants(text);
        check.finish();
    }

    private static void example(String text) throws ReflectiveOperationException {
        Matcher block = EXAMPLE.matcher(text);
        check.isTrue("README.md has an example", block.find());
        TieredLocks locks = new TieredLocks();
        Map<String, Integer> names = new HashMap<>();
        Set<String> called = new TreeSet<>();
        for (String line : block.group(1).split("\n")) {
            if (!line.isEmpty() && !line.startsWith("TieredLocks locks = new TieredLocks();")) {
                called.add(oneLine(line, locks, names));
            }
        }
        check.isTrue("the example has only " + called, called.equals(face().keySet()));
    }

    /** Makes the call of this line, compares its answer with the comment's first word, and answers the method's name. */
    private static String oneLine(String line, TieredLocks locks, Map<String, Integer> names)
            throws ReflectiveOperationException {
        Matcher call = CALL.matcher(line);
        if (!call.matches()) {
            check.isTrue("a line that this test cannot read: " + line, false);
            return line;
        }
        String got = outcome(locks, face().get(call.group(2)), numbers(call.group(3), names));
        String due = call.group(4) == null ? NO_ANSWER : valueOf(call.group(4));
        check.isTrue(line + " answered " + got, due.equals(got));
        if (call.group(1) != null) {
            names.put(call.group(1), Integer.valueOf(got));
        }
        return call.group(2);
    }

    private static Object[] numbers(String arguments, Map<String, Integer> names) {
        return Arrays.stream(arguments.split(", ")).filter(word -> !word.isEmpty())
            .map(word -> names.containsKey(word) ? names.get(word) : Integer.valueOf(word)).toArray();
    }

    private static String outcome(TieredLocks locks, Method method, Object[] arguments)
            throws ReflectiveOperationException {
        try {
            Object answer = method.invoke(locks, arguments);
            return answer == null ? NO_ANSWER : answer.toString();
        } catch (InvocationTargetException e) {
            return e.getCause().getClass().getSimpleName();
        }
    }

    /** A constant's name stands for its number; a number and an exception's name for themselves. */
    private static String valueOf(String word) throws ReflectiveOperationException {
        return word.matches("[A-Z]+") ? String.valueOf(TieredLocks.class.getField(word).getInt(null)) : word;
    }

    private static void headings(String text) {
        Map<String, Method> untold = face();
        for (String section : text.split("(?=\n#+ )")) {
            Matcher heading = HEADING.matcher(section);
            if (heading.find()) {
                Method method = untold.remove(heading.group(1));
                check.isTrue("a heading for no method: " + heading.group(), method != null);
                if (method != null) {
                    oneHeading(method, heading.group(2), section);
                }
            }
        }
        check.isTrue("no heading for " + untold.keySet(), untold.isEmpty());
    }

    private static void oneHeading(Method method, String parameters, String section) {
        int count = parameters.isEmpty() ? 0 : parameters.split(", ").length;
        check.same("parameters of " + method.getName(), method.getParameterCount(), count);
        StringBuilder due = new StringBuilder();
        for (Class<?> type : method.getExceptionTypes()) {
            due.append(type.getSimpleName()).append(' ');
        }
        StringBuilder told = new StringBuilder();
        Matcher exception = EXCEPTION.matcher(section);
        while (exception.find()) {
            told.append(exception.group(1)).append(' ');
        }
        check.isTrue("exceptions of " + method.getName() + ": " + told, due.toString().contentEquals(told));
    }

    private static void constants(String text) throws ReflectiveOperationException {
        for (String name : new String[] {"WAITS", "GRANTED", "COVERED", "KEPT", "DEADLOCK"}) {
            String row = "\\| `" + name + "` +\\| " + valueOf(name) + " ";
            check.isTrue("no row for " + name, Pattern.compile(row).matcher(text).find());
        }
        check.isTrue("no number for NONE", text.contains("`NONE` (" + TieredLocks.NONE + ")"));
    }

    private static Map<String, Method> face() {
        Map<String, Method> methods = new TreeMap<>();
        for (Method method : TieredLocks.class.getDeclaredMethods()) {
            if (Modifier.isPublic(method.getModifiers())) {
                methods.put(method.getName(), method);
            }
        }
        return methods;
    }
}
