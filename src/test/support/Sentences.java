import java.lang.reflect.InvocationTargetException;
import java.lang.reflect.Method;
import java.lang.reflect.Modifier;
import java.nio.charset.StandardCharsets;
import java.util.Map;
import java.util.TreeMap;
import java.util.function.Supplier;
import java.util.function.ToIntFunction;

/**
 * What the tests of single sentences share. Such a test is a static method whose name begins with the number of
 * its promise (p07_nIs1To8); runAll() calls each of them and asks that no promise of a section is without one.
 */
abstract class Sentences {
    static final int BAD = -1, NOT = -2, FULL = -3, NONE = -4, NULL = -11, CAST = -12, INDEX = -13, SIZE = -14;
    static final int LOWEST = Integer.MIN_VALUE, HIGHEST = Integer.MAX_VALUE;
    private static String sentence = "";
    private static int asked = 0;
    private static int askedInAll = 0;
    private static int wrong = 0;

    static void runAll(Class<?> section, int firstPromise, int lastPromise) {
        Map<String, Method> tests = new TreeMap<>();
        for (Method m : section.getDeclaredMethods()) {
            if (m.getName().matches("p\\d\\d_\\w+") && Modifier.isStatic(m.getModifiers())) {
                tests.put(m.getName(), m);
            }
        }
        for (int promise = firstPromise; promise <= lastPromise; promise++) {
            String begin = String.format("p%02d_", promise);
            if (tests.keySet().stream().noneMatch(name -> name.startsWith(begin))) {
                tell("promise " + promise + " has no test");
            }
        }
        for (Method test : tests.values()) {
            runOne(test);
        }
        System.out.println(tests.size() + " sentences, " + askedInAll + " answers asked for, " + wrong + " not as due");
        if (wrong != 0) {
            System.exit(1);
        }
    }

    private static void runOne(Method test) {
        sentence = test.getName();
        asked = 0;
        try {
            test.setAccessible(true);
            test.invoke(null);
        } catch (InvocationTargetException e) {
            tell(sentence + " threw " + e.getCause() + " behind answer " + asked);
        } catch (IllegalAccessException e) {
            tell(sentence + " can't be called");
        }
        if (asked == 0) {
            tell(sentence + " asks for nothing");
        }
        askedInAll += asked;
    }

    private static void tell(String what) {
        wrong++;
        System.out.println(what);
    }

    static void due(int want, int got) {
        asked++;
        if (want != got) {
            tell(sentence + ", answer " + asked + ": answered " + got + ", due is " + want);
        }
    }

    static void dueText(String want, String got) {
        asked++;
        if (!want.equals(got)) {
            tell(sentence + ", answer " + asked + ": found\n  " + got + "\ndue is\n  " + want);
        }
    }

    /** Asks for an answer, and that the call has changed nothing: all else is as in an object that was not asked. */
    static void same(int want, Supplier<FewTypes> made, ToIntFunction<FewTypes> call) {
        FewTypes used = made.get();
        due(want, call.applyAsInt(used));
        dueText(stateOf(made.get()), stateOf(used));
    }

    static void same(int want, ToIntFunction<FewTypes> call) {
        same(want, Sentences::rich, call);
    }

    // ---- objects to ask

    /** Puts a text on the tape, as many bytes at a time as a call takes: the last answer. */
    static int tape(FewTypes x, String text) {
        byte[] bytes = text.getBytes(StandardCharsets.ISO_8859_1);
        int answer = 0;
        for (int i = 0; i < bytes.length; i += 8) {
            int n = Math.min(8, bytes.length - i);
            long w = 0;
            for (int k = 0; k < n; k++) {
                w = w << 8 | bytes[i + k] & 255;
            }
            answer = x.type(w, n);
        }
        return answer;
    }

    static int line(FewTypes x, String text) {
        tape(x, text);
        return x.line();
    }

    static int types(FewTypes x, String text) {
        tape(x, text);
        return x.types();
    }

    static FewTypes shop(String types, String line) {
        FewTypes x = new FewTypes();
        types(x, types);
        line(x, line);
        return x;
    }

    static FewTypes wedged(String types, String line) {
        FewTypes x = shop(types, line);
        x.rule(0, 1);
        return x;
    }

    static FewTypes typesOnly(String types) {
        FewTypes x = new FewTypes();
        types(x, types);
        return x;
    }

    static FewTypes lineOnly(String line) {
        FewTypes x = new FewTypes();
        line(x, line);
        return x;
    }

    static void row(FewTypes x, int sheet, int lane, int... items) {
        x.sheet(sheet, lane, items.length);
        for (int i = 0; i < items.length; i++) {
            x.item(sheet, lane, i, items[i]);
        }
    }

    /** Something of all there is, and an image of something else. */
    static FewTypes rich() {
        FewTypes x = shop("l,ml9", "l_l");
        x.width(11, 1);
        x.rule(2, 2);
        x.text(3);
        x.job(9, 9);
        x.image();
        x.clear();
        types(x, "a,tbc,nab,mc5,mc2");
        x.width(0, 3);
        x.width(11, 4);
        x.rule(0, 1);
        x.rule(1, 1);
        x.rule(2, 3);
        line(x, "aabb");
        x.text(0);
        line(x, "d");
        x.text(0);
        line(x, "ab_cab");
        x.text(2);
        x.job(3, 5);
        x.job(4, 4);
        row(x, 0, 1, 7, 300, -5);
        row(x, 1, 0, 1, 2, 3, 4);
        x.sheet(2, 2, 0);
        tape(x, "ab");
        return x;
    }

    /** As rich, but nothing is told of a line, so neither texts are there. */
    static FewTypes richWithoutLine() {
        FewTypes x = typesOnly("a,tbc,nab,mc5");
        x.image();
        x.width(0, 3);
        x.rule(1, 1);
        x.job(3, 5);
        row(x, 0, 1, 7, 300, -5);
        row(x, 1, 0, 1, 2, 3, 4);
        x.sheet(2, 2, 0);
        tape(x, "ab");
        return x;
    }

    // ---- what is there

    static String typesOf(FewTypes x) {
        StringBuilder s = new StringBuilder();
        for (int type = 0; type < x.count(0); type++) {
            int kind = x.told(type, 0);
            int more = x.told(type, 2);
            s.append(type == 0 ? "" : ",").append(new String[] {"", "t", "n", "m"}[kind]);
            s.append((char) ('a' + x.told(type, 1)));
            if (kind == 1 || kind == 2) {
                s.append((char) ('a' + more));
            } else if (kind == 3 || more != 0) {
                s.append(more);
            }
        }
        return s.toString();
    }

    static String lineOf(FewTypes x) {
        StringBuilder s = new StringBuilder();
        int places = x.count(1);
        for (int place = 0; place < places; place++) {
            s.append((char) ('a' + x.place(place, 0)));
            s.append(x.place(place, 2) == 0 && place + 1 < places ? "_" : "");
        }
        return s.toString();
    }

    static String planOf(FewTypes x) {
        StringBuilder s = new StringBuilder();
        for (int k = 0; k < x.fewest(); k++) {
            s.append(k == 0 ? "" : " ").append(x.plan(k));
        }
        return s.toString();
    }

    static String orderOf(FewTypes x) {
        StringBuilder s = new StringBuilder();
        for (int k = 0; k < x.fewest(); k++) {
            s.append(k == 0 ? "" : " ").append(x.order(k));
        }
        return s.toString();
    }

    /** Which types print the places of a set, by the least way. */
    static String wayOf(FewTypes x, int set) {
        StringBuilder s = new StringBuilder();
        for (int place = 0; place < x.count(1); place++) {
            if ((set >> place & 1) == 1) {
                s.append(s.length() == 0 ? "" : " ").append(x.by(set, place));
            }
        }
        return s.toString();
    }

    /** All that can be asked for; widths, rules, sheets and the tape are other ones then. */
    static String stateOf(FewTypes x) {
        StringBuilder s = new StringBuilder(keptOf(x));
        s.append("; sheets ").append(sheetsOf(x));
        s.append("; tape ").append(x.type('a', 1)).append(' ').append(x.line()).append(' ').append(lineOf(x));
        return s.append("; restore ").append(x.restore()).append("; then ").append(keptOf(x)).toString();
    }

    private static String keptOf(FewTypes x) {
        StringBuilder s = new StringBuilder(typesOf(x)).append("; line ").append(lineOf(x));
        s.append(' ').append(x.count(2)).append(" hairs, ").append(x.fewest()).append(" pulls ").append(planOf(x));
        s.append("; texts");
        for (int text = 0; text < x.count(3); text++) {
            s.append(' ').append(x.needs(text));
        }
        for (int sense = 0; sense < 4; sense++) {
            s.append(sense == 0 ? " said " : " ").append(x.said(sense));
        }
        s.append("; ").append(x.count(4)).append(" jobs ").append(x.done()).append("; widths");
        for (int letter = 0; letter < 12; letter++) {
            s.append(' ').append(x.width(letter, 2));
        }
        s.append("; rules ").append(x.rule(0, 0)).append(' ').append(x.rule(1, 0)).append(' ').append(x.rule(2, 4));
        return s.toString();
    }

    /** Whether the rows of rich() are there; sheet 3 is used to look at them. */
    private static String sheetsOf(FewTypes x) {
        StringBuilder s = new StringBuilder().append(x.drop(3));
        row(x, 3, 1, 7, 300, -5);
        s.append(' ').append(x.alike(0, 3, 3, 0)).append(' ').append(x.alike(0, 3, 3, 1));
        row(x, 3, 0, 1, 2, 3, 4);
        s.append(' ').append(x.alike(1, 3, 4, 0)).append(' ').append(x.alike(1, 3, 4, 1));
        s.append(' ').append(x.item(2, 1, 0, 0)).append(' ').append(x.item(2, 2, 0, 0));
        return s.append(' ').append(x.drop(0)).append(' ').append(x.drop(1)).append(' ').append(x.drop(2)).toString();
    }

    /** Whether a sheet holds just these items; sheet 3 is used to look at it. */
    static void holds(FewTypes x, int sheet, int lane, int... items) {
        row(x, 3, lane, items);
        due(1, x.alike(sheet, 3, items.length, 0));
        due(1, x.alike(sheet, 3, items.length, 1));
        due(INDEX, x.item(sheet, lane, items.length, 0));
    }
}
