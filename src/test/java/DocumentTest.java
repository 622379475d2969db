import java.lang.reflect.Constructor;
import java.lang.reflect.Field;
import java.lang.reflect.Method;
import java.lang.reflect.Modifier;
import java.nio.file.Files;
import java.nio.file.Path;
import java.util.ArrayList;
import java.util.Arrays;
import java.util.List;
import java.util.Set;
import java.util.TreeSet;
import java.util.regex.Matcher;
import java.util.regex.Pattern;
import java.util.stream.Collectors;
import java.util.stream.Stream;

/** The class and its tests against ../shared/DOC.md itself, not against a copy of its words. Runs from the root. */
public final class DocumentTest {
    private static final Path DOCUMENT = Path.of("../shared/DOC.md");
    private static final Path TESTS = Path.of("src/test/java");
    private static final int PROMISES = 33;
    private static final Pattern QUOTE = Pattern.compile("\\.says\\(\"([^\"]*)\"\\)");
    private static final Due T = new Due();

    public static void main(String[] args) throws Exception {
        String document = Files.readString(DOCUMENT);
        theFaceAsWritten(document);
        List<String> quotes = quotes();
        everyQuoteStands(document, quotes);
        everyPromiseIsTested(document, quotes);
        T.end();
    }

    private static String between(String text, String from, String to) {
        int first = text.indexOf(from);
        int end = first < 0 ? -1 : text.indexOf(to, first + from.length());
        if (first < 0) {
            return "";
        }
        return text.substring(first + from.length(), end < 0 ? text.length() : end);
    }

    private static void theFaceAsWritten(String document) throws Exception {
        String block = between(between(document, "## The public face\n", "\n## "), "```java\n", "```");
        Set<String> written = new TreeSet<>();
        for (String line : block.split("\n")) {
            String member = line.trim();
            if (member.startsWith("public static final int ")) {
                String all = member.substring("public static final int ".length(), member.length() - 1);
                for (String one : all.split(", ")) {
                    written.add("public static final int " + one);
                }
            } else if (!member.equals("}")) {
                // The names of parameters are the interface's own; the class has their types.
                written.add(member.replaceAll("(int|long) \\w+(?=[,)])", "$1"));
            }
        }
        T.same("the public face of the class", face().toString(), written.toString());
    }

    /** All of the class that is not private, written as the document does. */
    private static Set<String> face() throws Exception {
        Class<?> c = LongestWed.class;
        Set<String> face = new TreeSet<>();
        face.add(Modifier.toString(c.getModifiers()) + " class " + c.getName() + " {");
        for (Field f : c.getDeclaredFields()) {
            if (!Modifier.isPrivate(f.getModifiers())) {
                face.add(Modifier.toString(f.getModifiers()) + " " + f.getType() + " " + f.getName() + " = " + f.get(null));
            }
        }
        for (Constructor<?> k : c.getDeclaredConstructors()) {
            if (!Modifier.isPrivate(k.getModifiers())) {
                face.add(Modifier.toString(k.getModifiers()) + " " + k.getName() + types(k.getParameterTypes()));
            }
        }
        for (Method m : c.getDeclaredMethods()) {
            if (!Modifier.isPrivate(m.getModifiers())) {
                face.add(Modifier.toString(m.getModifiers()) + " " + m.getReturnType() + " " + m.getName()
                    + types(m.getParameterTypes()));
            }
        }
        return face;
    }

    private static String types(Class<?>[] parameters) {
        return Arrays.stream(parameters).map(Class::getName).collect(Collectors.joining(", ", "(", ");"));
    }

    private static List<String> quotes() throws Exception {
        List<Path> files;
        try (Stream<Path> all = Files.list(TESTS)) {
            files = all.filter(f -> f.getFileName().toString().endsWith("Test.java")).collect(Collectors.toList());
        }
        List<String> quotes = new ArrayList<>();
        for (Path file : files) {
            Matcher quote = QUOTE.matcher(Files.readString(file));
            while (quote.find()) {
                quotes.add(quote.group(1));
            }
        }
        return quotes;
    }

    private static void everyQuoteStands(String document, List<String> quotes) {
        for (String quote : quotes) {
            T.due("in the document: " + quote, document.contains(quote) ? 1 : 0, 1);
        }
    }

    private static void everyPromiseIsTested(String document, List<String> quotes) throws Exception {
        String cases = Files.readString(TESTS.resolve("PromisesTest.java"));
        String[] words = new String[PROMISES + 1];
        for (int promise = 1; promise <= PROMISES; promise++) {
            // What stands behind the signature is the promise.
            words[promise] = between(between(document, "## Promise " + promise + ":", "\n## "), "`: ", "\n##").trim();
        }
        for (int promise = 1; promise <= PROMISES; promise++) {
            T.due("words of promise " + promise + " of its own are quoted: " + words[promise],
                isQuotedAlone(words, promise, quotes) ? 1 : 0, 1);
            T.due("a case of promise " + promise, cases.contains("\"" + promise + ": ") ? 1 : 0, 1);
        }
        T.due("no promise behind the last one", document.contains("## Promise " + (PROMISES + 1) + ":") ? 1 : 0, 0);
    }

    /** A quote that several promises share, such as their refusals, says nothing of any one of them. */
    private static boolean isQuotedAlone(String[] words, int promise, List<String> quotes) {
        for (String quote : quotes) {
            int promises = 0;
            for (int other = 1; other <= PROMISES; other++) {
                promises += words[other].contains(quote) ? 1 : 0;
            }
            if (promises == 1 && words[promise].contains(quote)) {
                return true;
            }
        }
        return false;
    }
}
