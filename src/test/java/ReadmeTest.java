import java.lang.reflect.Method;
import java.lang.reflect.Modifier;
import java.nio.file.Files;
import java.nio.file.Path;
import java.util.List;
import java.util.regex.Matcher;
import java.util.regex.Pattern;
import java.util.stream.Collectors;
import java.util.stream.Stream;

/** README.md is true: its calls have the answers behind them, and it names every call and test. Runs from the root. */
public final class ReadmeTest {
    private static final Path README = Path.of("README.md");
    private static final Path TESTS = Path.of("src/test/java");
    private static final Pattern CALL = Pattern.compile("x\\.(\\w+)\\((.*?)\\);\\s*// (-?\\d+)(:.*)?");
    private static final Due T = new Due();

    public static void main(String[] args) throws Exception {
        String text = Files.readString(README);
        int played = 0;
        Matcher block = Pattern.compile("```java\n(.*?)```", Pattern.DOTALL).matcher(text);
        while (block.find()) {
            play(block.group(1));
            played++;
        }
        T.due("there are examples", played > 0 ? 1 : 0, 1);
        everyCall(text);
        everyTest(text);
        T.end();
    }

    private static void play(String block) throws Exception {
        LongestWed x = null;
        for (String line : block.split("\n")) {
            if (line.startsWith("LongestWed x = new LongestWed();")) {
                x = new LongestWed();
                continue;
            }
            Matcher call = CALL.matcher(line);
            boolean isCall = call.matches();
            T.due("a call with its answer: " + line, isCall ? 1 : 0, 1);
            if (isCall) {
                T.due(line, answer(x, call.group(1), call.group(2)), Long.parseLong(call.group(3)));
            }
        }
    }

    private static int answer(LongestWed x, String name, String arguments) throws Exception {
        String[] told = arguments.isEmpty() ? new String[0] : arguments.split(", ");
        for (Method m : LongestWed.class.getMethods()) {
            if (m.getName().equals(name) && m.getParameterCount() == told.length) {
                Object[] values = new Object[told.length];
                for (int k = 0; k < told.length; k++) {
                    boolean isLetter = told[k].startsWith("'");
                    int value = isLetter ? told[k].charAt(1) : Integer.parseInt(told[k]);
                    values[k] = m.getParameterTypes()[k] == long.class ? (Object) (long) value : (Object) value;
                }
                return (Integer) m.invoke(x, values);
            }
        }
        throw new IllegalArgumentException("no such call: " + name + "(" + arguments + ")");
    }

    private static void everyCall(String text) {
        for (Method m : LongestWed.class.getDeclaredMethods()) {
            if (Modifier.isPublic(m.getModifiers())) {
                T.due("names the call " + m.getName(), text.contains("`" + m.getName() + "`") ? 1 : 0, 1);
            }
        }
    }

    private static void everyTest(String text) throws Exception {
        List<String> tests;
        try (Stream<Path> files = Files.list(TESTS)) {
            tests = files.map(f -> f.getFileName().toString()).filter(f -> f.endsWith("Test.java"))
                .map(f -> f.substring(0, f.length() - ".java".length())).collect(Collectors.toList());
        }
        T.due("there are tests", tests.isEmpty() ? 0 : 1, 1);
        for (String test : tests) {
            T.due("names the test " + test, text.contains("`" + test + "`") ? 1 : 0, 1);
        }
    }
}
