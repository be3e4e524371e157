import java.io.IOException;
import java.lang.reflect.Constructor;
import java.lang.reflect.Field;
import java.lang.reflect.Method;
import java.lang.reflect.Modifier;
import java.nio.file.Files;
import java.nio.file.Path;
import java.util.Arrays;
import java.util.HashSet;
import java.util.Map;
import java.util.Set;
import java.util.TreeMap;
import java.util.TreeSet;
import java.util.regex.Matcher;
import java.util.regex.Pattern;

/** The class has the document's face and no other, and keeps to the rules of LANGUAGE.md that a test can see. */
public final class FaceTests {
    private static final Path PROGRAM = Path.of("src/main/java/TieredLocks.java");

    private static final Map<String, String> METHODS = new TreeMap<>(Map.ofEntries(
        Map.entry("begin", "int() "),
        Map.entry("lock", "int(int,int,int) IllegalArgumentException,IllegalStateException,UnsupportedOperationException"),
        Map.entry("unlock", "void(int,int) IllegalArgumentException,IllegalStateException,UnsupportedOperationException"),
        Map.entry("escalate", "int(int,int) IllegalArgumentException,IllegalStateException"),
        Map.entry("end", "int(int) IllegalArgumentException,IllegalStateException"),
        Map.entry("held", "int(int,int) "),
        Map.entry("state", "int(int) "),
        Map.entry("wanted", "int(int) "),
        Map.entry("queue", "int(int,int) "),
        Map.entry("waitsFor", "int(int) "),
        Map.entry("access", "int(int,int) "),
        Map.entry("locks", "int(int) ")));

    private static final Set<String> CONSTANTS = Set.of("WAITS", "GRANTED", "COVERED", "KEPT", "DEADLOCK", "NONE");

    private static final String[] FORBIDDEN = {
        "import", "package", "synchronized", "assert", "finally", "try", "catch", "static \\{", "->", "::",
        "protected", "volatile", "native", "Random", "System\\.(?!arraycopy)", "Thread", "toString", "hashCode",
        "\\w+Exact\\b"};

    private static final Checks check = new Checks();

    public static void main(String[] args) throws IOException {
        publicMethods();
        otherMembers();
        innerClasses();
        sourceWords();
        methodLengths();
        check.finish();
    }

    private static void publicMethods() {
        Map<String, String> found = new TreeMap<>();
        Set<String> hidden = new HashSet<>();
        for (Method method : TieredLocks.class.getDeclaredMethods()) {
            if (Modifier.isPrivate(method.getModifiers())) {
                hidden.add(method.getName());
                check.isTrue("too many parameters: " + method, method.getParameterCount() <= 7);
            } else {
                check.isTrue("not public: " + method, Modifier.isPublic(method.getModifiers()));
                check.isTrue("static: " + method, !Modifier.isStatic(method.getModifiers()));
                found.put(method.getName(), signature(method));
            }
        }
        check.isTrue("the public methods are " + found + ", due are " + METHODS, found.equals(METHODS));
        hidden.retainAll(METHODS.keySet());
        check.isTrue("private methods with a public name: " + hidden, hidden.isEmpty());
    }

    private static String signature(Method method) {
        return method.getReturnType().getSimpleName() + "(" + names(method.getParameterTypes(), ",") + ") "
            + names(method.getExceptionTypes(), ",");
    }

    private static String names(Class<?>[] types, String between) {
        return String.join(between, Arrays.stream(types).map(Class::getSimpleName).toArray(String[]::new));
    }

    private static void otherMembers() {
        int modifiers = TieredLocks.class.getModifiers();
        check.isTrue("public and final", Modifier.isPublic(modifiers) && Modifier.isFinal(modifiers));
        Constructor<?>[] constructors = TieredLocks.class.getDeclaredConstructors();
        check.same("constructors", 1, constructors.length);
        check.isTrue("public constructor", Modifier.isPublic(constructors[0].getModifiers()));
        check.same("its parameters", 0, constructors[0].getParameterCount());
        Set<String> visible = new TreeSet<>();
        for (Field field : TieredLocks.class.getDeclaredFields()) {
            if (!Modifier.isPrivate(field.getModifiers())) {
                visible.add(field.getName());
                check.isTrue("not public static final int: " + field, isConstantOfTheFace(field));
            }
            boolean shared = Modifier.isStatic(field.getModifiers());
            check.isTrue("static but not final: " + field, !shared || Modifier.isFinal(field.getModifiers()));
        }
        check.isTrue("the visible fields are " + visible, visible.equals(CONSTANTS));
    }

    private static boolean isConstantOfTheFace(Field field) {
        int due = Modifier.PUBLIC | Modifier.STATIC | Modifier.FINAL;
        return field.getModifiers() == due && field.getType() == int.class;
    }

    private static void innerClasses() {
        for (Class<?> inner : TieredLocks.class.getDeclaredClasses()) {
            int modifiers = inner.getModifiers();
            boolean hidden = !Modifier.isPublic(modifiers) && !Modifier.isProtected(modifiers);
            check.isTrue("neither hidden nor static: " + inner, hidden && Modifier.isStatic(modifiers));
        }
    }

    private static void sourceWords() throws IOException {
        String code = code();
        for (String word : FORBIDDEN) {
            String bounded = Character.isLetter(word.charAt(0)) ? "\\b" + word : word;
            Matcher matcher = Pattern.compile(bounded).matcher(code);
            check.isTrue("the program has '" + word + "'", !matcher.find());
        }
        Matcher thrown = Pattern.compile("throw (?!new Illegal(Argument|State)Exception\\(|new UnsupportedOperationException\\()")
            .matcher(code);
        check.isTrue("it throws what the document does not name", !thrown.find());
    }

    private static void methodLengths() throws IOException {
        int start = 0;
        int number = 0;
        for (String line : Files.readAllLines(PROGRAM)) {
            number++;
            if (line.matches("    (public|private) [^=;]*")) {
                start = number;
            }
            if (line.equals("    }")) {
                check.isTrue("method of more than sixty lines before line " + number, number - start < 60);
            }
        }
    }

    private static String code() throws IOException {
        return Files.readString(PROGRAM).replaceAll("(?s)/\\*.*?\\*/", "").replaceAll("//[^\\n]*", "");
    }
}
