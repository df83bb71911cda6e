import java.io.IOException;
import java.lang.reflect.InvocationTargetException;
import java.lang.reflect.Method;
import java.lang.reflect.Modifier;
import java.nio.file.Files;
import java.nio.file.Path;
import java.util.List;
import java.util.Set;
import java.util.TreeSet;
import java.util.regex.Matcher;
import java.util.regex.Pattern;

/** The examples of README.md are called as they stand there, and its tables name the whole face. */
public final class ReadmeTests {
    private static final Pattern CALL = Pattern.compile("press\\.(\\w+)\\((.*)\\); *// (-?\\d+)(:.*)?");
    private static final String FRESH = "FewTypes press = new FewTypes();";
    private static final int FEWEST_CALLS = 30;
    private static int wrong = 0;
    private static int asked = 0;

    public static void main(String[] args) throws IOException, ReflectiveOperationException {
        List<String> lines = Files.readAllLines(Path.of("README.md"));
        examples(lines);
        tables(lines);
        System.out.println("README.md, " + asked + " calls, " + wrong + " not as due");
        if (wrong != 0) {
            System.exit(1);
        }
    }

    private static void fail(String what) {
        wrong++;
        System.out.println("not as due: " + what);
    }

    private static void examples(List<String> lines) throws ReflectiveOperationException {
        FewTypes press = null;
        boolean inside = false;
        for (String line : lines) {
            if (line.startsWith("```")) {
                inside = line.equals("```java");
            } else if (inside && line.equals(FRESH)) {
                press = new FewTypes();
            } else if (inside) {
                example(press, line);
            }
        }
        if (asked < FEWEST_CALLS) {
            fail("only " + asked + " calls in the examples");
        }
    }

    private static void example(FewTypes press, String line) throws ReflectiveOperationException {
        Matcher m = CALL.matcher(line);
        if (press == null || !m.matches()) {
            fail("no call with its answer: " + line);
            return;
        }
        asked++;
        int got = call(press, m.group(1), m.group(2).isEmpty() ? new String[0] : m.group(2).split(", *"));
        if (got != Integer.parseInt(m.group(3))) {
            fail(line + " answered " + got);
        }
    }

    private static int call(FewTypes press, String name, String[] words)
            throws IllegalAccessException, InvocationTargetException {
        for (Method m : FewTypes.class.getMethods()) {
            if (m.getName().equals(name) && m.getParameterCount() == words.length) {
                Object[] values = new Object[words.length];
                for (int i = 0; i < words.length; i++) {
                    long value = Long.decode(words[i].replace("L", ""));
                    boolean isLong = m.getParameterTypes()[i] == long.class;
                    values[i] = isLong ? (Object) value : (Object) (int) value;
                }
                return (Integer) m.invoke(press, values);
            }
        }
        fail("no such call: " + name);
        return 0;
    }

    private static void tables(List<String> lines) {
        Set<String> named = new TreeSet<>();
        for (String line : lines) {
            Matcher m = Pattern.compile("\\| `(\\w+)\\((.*?)\\)` \\| .*").matcher(line);
            if (m.matches()) {
                int count = m.group(2).isEmpty() ? 0 : m.group(2).split(",").length;
                named.add(m.group(1) + " of " + count);
            }
        }
        Set<String> face = new TreeSet<>();
        for (Method m : FewTypes.class.getDeclaredMethods()) {
            if (Modifier.isPublic(m.getModifiers())) {
                face.add(m.getName() + " of " + m.getParameterCount());
            }
        }
        if (!named.equals(face)) {
            fail("the tables name " + named + ", the face is " + face);
        }
    }
}
