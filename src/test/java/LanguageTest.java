import java.lang.reflect.Field;
import java.lang.reflect.Method;
import java.lang.reflect.Modifier;
import java.nio.file.Files;
import java.nio.file.Path;
import java.util.ArrayList;
import java.util.Arrays;
import java.util.List;
import java.util.Set;
import java.util.TreeSet;
import java.util.regex.Pattern;

/** The face of the document, and the rules of LANGUAGE.md that a plain look can test. Runs from the project's root. */
public final class LanguageTest {
    private static final Path SOURCE = Path.of("src/main/java/LongestWed.java");
    private static final String[] FACE = {
        "couple/2", "of/2", "type/1", "town/0", "count/1", "years/1", "nurse/2", "stir/2", "wed/1", "drift/1", "undo/0",
        "seed/1", "keys/1", "ahead/2", "then/1", "rises/2", "parts/1", "ever/0", "rivals/3", "needs/2", "soothe/2",
        "start/1", "sum/1", "rows/3", "image/0", "restore/0", "heard/6", "film/5", "sheet/3", "drop/1", "item/4", "copy/5"};
    private static final Set<String> CONSTANTS = Set.of("BAD", "NOT", "FULL", "NONE", "NULL", "CAST", "INDEX", "SIZE");
    private static final String[] FORBIDDEN = {
        "\\bimport\\b", "\\bpackage\\b", "\\btry\\b", "\\bcatch\\b", "\\bfinally\\b", "\\bthrow\\b", "\\bsynchronized\\b",
        "\\bassert\\b", "->", "::", "\\bdouble\\b", "\\bfloat\\b", "Exact\\b", "\\bhashCode\\b", "\\btoString\\b",
        "\\bInteger\\.(?!bitCount\\b)", "\\bMath\\.(?!min\\b|max\\b)", "\\bSystem\\.(?!arraycopy\\b)", "\\bstatic\\s*\\{",
        "[^\\x00-\\x7f]"};
    private static final Due T = new Due();

    public static void main(String[] args) throws Exception {
        theFace();
        theNames();
        theClasses();
        theSource();
        T.end();
    }

    private static void theFace() {
        Class<?> c = LongestWed.class;
        T.due("the class is public and final", c.getModifiers() & (Modifier.PUBLIC | Modifier.FINAL), Modifier.PUBLIC | Modifier.FINAL);
        Set<String> seen = new TreeSet<>();
        for (Method m : c.getDeclaredMethods()) {
            if (!Modifier.isPrivate(m.getModifiers())) {
                seen.add(m.getName() + "/" + m.getParameterCount());
                T.due(m.getName() + " is public, no static, answers an int",
                    Modifier.isPublic(m.getModifiers()) && !Modifier.isStatic(m.getModifiers()) && m.getReturnType() == int.class ? 1 : 0, 1);
                for (int k = 0; k < m.getParameterCount(); k++) {
                    boolean isLong = m.getName().equals("item") && k == 3;
                    T.due(m.getName() + ", parameter " + k, m.getParameterTypes()[k] == (isLong ? long.class : int.class) ? 1 : 0, 1);
                }
            }
        }
        T.due("the methods: " + seen, seen.equals(new TreeSet<>(Arrays.asList(FACE))) ? 1 : 0, 1);
        Set<String> fields = new TreeSet<>();
        for (Field f : c.getDeclaredFields()) {
            if (!Modifier.isPrivate(f.getModifiers())) {
                fields.add(f.getName());
            }
            if (Modifier.isStatic(f.getModifiers())) {
                T.due(f.getName() + " is final", Modifier.isFinal(f.getModifiers()) ? 1 : 0, 1);
            }
        }
        T.due("the constants: " + fields, fields.equals(new TreeSet<>(CONSTANTS)) ? 1 : 0, 1);
        T.due("one constructor", c.getDeclaredConstructors().length, 1);
    }

    private static void theNames() {
        Set<String> face = new TreeSet<>();
        for (String call : FACE) {
            face.add(call.substring(0, call.indexOf('/')));
        }
        List<Method> inner = new ArrayList<>();
        for (Class<?> c : LongestWed.class.getDeclaredClasses()) {
            inner.addAll(Arrays.asList(c.getDeclaredMethods()));
        }
        for (Method m : LongestWed.class.getDeclaredMethods()) {
            if (Modifier.isPrivate(m.getModifiers())) {
                inner.add(m);
            }
        }
        for (Method m : inner) {
            T.due(m + " bears a public name", face.contains(m.getName()) ? 1 : 0, 0);
            T.due(m + " has at most seven parameters", m.getParameterCount() <= 7 ? 1 : 0, 1);
        }
    }

    private static void theClasses() {
        Class<?>[] inside = LongestWed.class.getDeclaredClasses();
        T.due("at most twelve classes", inside.length < 12 ? 1 : 0, 1);
        for (Class<?> c : inside) {
            T.due(c + " is static", Modifier.isStatic(c.getModifiers()) ? 1 : 0, 1);
            T.due(c + " is neither public nor protected", c.getModifiers() & (Modifier.PUBLIC | Modifier.PROTECTED), 0);
            T.due(c + " has at most twenty fields", c.getDeclaredFields().length <= 20 ? 1 : 0, 1);
        }
    }

    private static void theSource() throws Exception {
        String text = Files.readString(SOURCE);
        for (String pattern : FORBIDDEN) {
            T.due("the source has " + pattern, Pattern.compile(pattern).matcher(text).find() ? 1 : 0, 0);
        }
        // Rows are made by constructors alone, so that no run of calls needs more room.
        for (String line : text.split("\n")) {
            boolean makes = Pattern.compile("\\bnew\\b").matcher(line).find() && !line.trim().startsWith("//");
            boolean inConstructor = line.contains("final ") || line.contains("sheets[s] =") || line.contains("known[k] =");
            T.due("made in a call: " + line.trim(), makes && !inConstructor ? 1 : 0, 0);
        }
    }
}
