import java.io.IOException;
import java.lang.reflect.Constructor;
import java.lang.reflect.Field;
import java.lang.reflect.Method;
import java.lang.reflect.Modifier;
import java.nio.file.Files;
import java.nio.file.Path;
import java.util.Arrays;
import java.util.List;
import java.util.Set;
import java.util.TreeSet;

/** The public face is the document's and no more, and the class keeps the rules that can be looked up. */
public final class FaceTests {
    private static final String[] FACE = {"alike(int,int,int,int)", "bound()", "by(int,int)", "can(int)", "cast(int,int,int)",
        "clear()", "copy(int,int,int,int,int)", "count(int)", "done()", "drop(int)", "fewest()", "image()",
        "item(int,int,int,int)", "job(int,int)", "leaf(int,int,int)", "line()", "lose(int)", "lost(int)", "make(int)",
        "needs(int)", "order(int)", "place(int,int)", "plan(int)", "restore()", "rule(int,int)", "said(int)",
        "sheet(int,int,int)", "text(int)", "told(int,int)", "type(long,int)", "types()", "width(int,int)"};
    private static final String[] CONSTANTS = {"BAD=-1", "CAST=-12", "FULL=-3", "INDEX=-13", "NONE=-4", "NOT=-2", "NULL=-11",
        "SIZE=-14"};
    private static final String[] FOREIGN = {"->", "::", "throw ", "catch", "finally", "synchronized", "assert ", "package ",
        "Exact(", "System.nanoTime", "System.currentTimeMillis", "System.out", "Random", "Thread", "while (true)", "for (;;)",
        "double ", "float ", "String "};
    private static int wrong = 0;

    public static void main(String[] args) throws IOException, IllegalAccessException {
        methods();
        constants();
        constructors();
        inside();
        source();
        System.out.println("the face, " + wrong + " not as due");
        if (wrong != 0) {
            System.exit(1);
        }
    }

    private static void due(String what, boolean good) {
        if (!good) {
            wrong++;
            System.out.println("not as due: " + what);
        }
    }

    private static String signature(Method m) {
        StringBuilder s = new StringBuilder(m.getName()).append('(');
        for (Class<?> c : m.getParameterTypes()) {
            s.append(s.charAt(s.length() - 1) == '(' ? "" : ",").append(c.getName());
        }
        return s.append(')').toString();
    }

    private static void methods() {
        Set<String> found = new TreeSet<>();
        Set<String> names = new TreeSet<>();
        for (Method m : FewTypes.class.getDeclaredMethods()) {
            if (Modifier.isPublic(m.getModifiers())) {
                found.add(signature(m));
                names.add(m.getName());
                due("int from " + m, m.getReturnType() == int.class && !Modifier.isStatic(m.getModifiers()));
            }
        }
        due("face " + found, found.equals(new TreeSet<>(Arrays.asList(FACE))));
        for (Method m : FewTypes.class.getDeclaredMethods()) {
            boolean isPublic = Modifier.isPublic(m.getModifiers());
            due("visible " + m, isPublic || Modifier.isPrivate(m.getModifiers()));
            due("private name " + m, isPublic || !names.contains(m.getName()));
        }
        for (Class<?> c : FewTypes.class.getDeclaredClasses()) {
            for (Method m : c.getDeclaredMethods()) {
                due("inner name " + m, !names.contains(m.getName()));
                due("parameters " + m, m.getParameterCount() <= 7);
            }
        }
    }

    private static void constants() throws IllegalAccessException {
        Set<String> found = new TreeSet<>();
        for (Field f : FewTypes.class.getDeclaredFields()) {
            int how = f.getModifiers();
            if (Modifier.isPublic(how)) {
                due("constant " + f, Modifier.isStatic(how) && Modifier.isFinal(how) && f.getType() == int.class);
                found.add(f.getName() + "=" + f.getInt(null));
            } else {
                due("visible " + f, Modifier.isPrivate(how));
            }
            due("static " + f, !Modifier.isStatic(how) || Modifier.isFinal(how));
        }
        due("constants " + found, found.equals(new TreeSet<>(Arrays.asList(CONSTANTS))));
    }

    private static void constructors() {
        Constructor<?>[] all = FewTypes.class.getDeclaredConstructors();
        due("one constructor", all.length == 1 && all[0].getParameterCount() == 0 && Modifier.isPublic(all[0].getModifiers()));
        int how = FewTypes.class.getModifiers();
        due("public, final", Modifier.isPublic(how) && Modifier.isFinal(how));
        due("no class above", FewTypes.class.getSuperclass() == Object.class && FewTypes.class.getInterfaces().length == 0);
    }

    private static void inside() {
        Class<?>[] classes = FewTypes.class.getDeclaredClasses();
        due("classes " + classes.length, classes.length + 1 <= 12);
        for (Class<?> c : classes) {
            int how = c.getModifiers();
            due("class " + c, Modifier.isStatic(how) && !Modifier.isPublic(how) && !Modifier.isProtected(how));
            due("fields of " + c, changeable(c) <= 20);
        }
        due("fields", changeable(FewTypes.class) <= 20);
    }

    private static int changeable(Class<?> c) {
        int found = 0;
        for (Field f : c.getDeclaredFields()) {
            found += Modifier.isStatic(f.getModifiers()) ? 0 : 1;
        }
        return found;
    }

    /** A loop holds a counter against a bound; a shift is no such thing. */
    private static boolean endsInSight(String line) {
        if (line.startsWith("while (")) {
            return line.replaceAll("<<|>>>?", "").matches(".*[<>].*");
        }
        if (line.startsWith("for (") && !line.contains(" : ")) {
            String[] parts = line.split(";");
            return parts.length == 3 && parts[1].replaceAll("<<|>>>?", "").matches(".*[<>].*");
        }
        return !line.matches("(for|while|do)\\b.*") || line.startsWith("for (");
    }

    /** All calls of a run live in one room, so rows are made as fields, or in the two constructors that fill them. */
    private static boolean madeOnce(String line) {
        return line.matches("(private )?final [\\w\\[\\]]+ \\w+ = new .*;") || line.equals("sheets[i] = new Sheet();")
                || line.equals("texts[i] = new Line();");
    }

    private static void source() throws IOException {
        List<String> lines = Files.readAllLines(Path.of("src/main/java/FewTypes.java"));
        for (int i = 0; i < lines.size(); i++) {
            String line = lines.get(i);
            String bare = line.strip();
            if (bare.startsWith("/*") || bare.startsWith("*") || bare.startsWith("//")) {
                continue;
            }
            for (String foreign : FOREIGN) {
                due("line " + (i + 1) + " has " + foreign, !line.contains(foreign));
            }
            due("line " + (i + 1) + " has a loop whose end can't be seen", endsInSight(bare));
            due("line " + (i + 1) + " makes an object in a call", !line.contains("new ") || madeOnce(bare));
            due("line " + (i + 1) + " imports", !bare.startsWith("import") || bare.equals("import java.util.Arrays;"));
            if (line.matches("( {4}| {8})[a-zA-Z].*\\) \\{") && !bare.matches("(if|for|while|switch)\\b.*")) {
                String end = line.substring(0, line.indexOf(bare)) + "}";
                int length = lines.subList(i, lines.size()).indexOf(end);
                due("method at line " + (i + 1) + " is long", length > 0 && length < 60);
            }
        }
    }
}
