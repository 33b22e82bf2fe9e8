import java.io.IOException;
import java.lang.reflect.InvocationTargetException;
import java.lang.reflect.Method;
import java.nio.file.Files;
import java.nio.file.Path;
import java.util.ArrayList;
import java.util.BitSet;
import java.util.Comparator;
import java.util.HashMap;
import java.util.List;
import java.util.Map;

/**
 * Runs the tests of a class, each with the words of the document that it quotes, and sees that the
 * words stand there, and that no word of the parts in question is without a test.
 */
final class Sentences {
    private static final Path DOCUMENT = Path.of("../shared/DOC.md");

    private final Map<String, StringBuilder> parts = new HashMap<>();
    private final Map<String, BitSet> quoted = new HashMap<>();

    private Sentences(List<String> lines) {
        String part = "";
        for (String line : lines) {
            if (line.startsWith("## ")) {
                part = line.substring(3).replaceAll(":.*", "");
            } else if (line.matches("[A-Z]+( [A-Z]+)*")) {
                part = line;
            } else {
                add(part, line);
            }
        }
    }

    static void run(Class<?> tests, String... parts) {
        Sentences sentences = new Sentences(document());
        runTests(tests);
        if (sentences.parts.isEmpty()) {
            System.out.println(DOCUMENT + " is not there: the tests' words were not looked for");
        } else {
            sentences.findWords(tests, parts);
        }
        Check.end();
    }

    private static List<String> document() {
        try {
            return Files.exists(DOCUMENT) ? Files.readAllLines(DOCUMENT) : List.of();
        } catch (IOException e) {
            Check.holds(DOCUMENT + " can be read", false);
            return List.of();
        }
    }

    private void add(String part, String line) {
        StringBuilder text = parts.computeIfAbsent(part, p -> new StringBuilder());
        quoted.computeIfAbsent(part, p -> new BitSet());
        if (!line.isBlank()) {
            text.append(line.strip().replaceAll("\\s+", " ")).append(' ');
        }
    }

    private static List<Method> testsOf(Class<?> tests) {
        List<Method> methods = new ArrayList<>();
        for (Method method : tests.getDeclaredMethods()) {
            if (method.isAnnotationPresent(Says.class)) {
                methods.add(method);
            }
        }
        methods.sort(Comparator.comparing(Method::getName));
        return methods;
    }

    private static void runTests(Class<?> tests) {
        for (Method method : testsOf(tests)) {
            Says says = method.getAnnotation(Says.class);
            Check.begin(method.getName() + " [" + says.in() + ": " + String.join(" .. ", says.words()) + "]");
            runOne(method);
        }
    }

    private void findWords(Class<?> tests, String... wanted) {
        for (Method method : testsOf(tests)) {
            Check.begin(method.getName());
            quote(method.getAnnotation(Says.class));
        }
        Check.begin(tests.getName());
        for (String part : wanted) {
            String left = left(part);
            Check.holds("a test for each word of " + part + ", but not for: " + left, left.isEmpty());
        }
    }

    private void quote(Says says) {
        StringBuilder text = parts.getOrDefault(says.in(), new StringBuilder());
        for (String words : says.words()) {
            int at = text.indexOf(words);
            Check.holds("the document says: " + words, at >= 0 && !words.isEmpty());
            while (at >= 0 && !words.isEmpty()) {
                quoted.get(says.in()).set(at, at + words.length());
                at = text.indexOf(words, at + 1);
            }
        }
    }

    private static void runOne(Method method) {
        int before = Check.asked();
        try {
            method.invoke(null);
        } catch (InvocationTargetException e) {
            Check.holds("no " + e.getCause(), false);
        } catch (IllegalAccessException e) {
            Check.holds("it can be called", false);
        }
        Check.holds("it looks at an answer", Check.asked() > before);
    }

    private String left(String part) {
        String text = parts.getOrDefault(part, new StringBuilder(part)).toString();
        BitSet seen = quoted.getOrDefault(part, new BitSet());
        StringBuilder left = new StringBuilder();
        for (int i = 0; i < text.length(); i++) {
            left.append(seen.get(i) ? ' ' : text.charAt(i));
        }
        return left.toString().replaceAll("[^A-Za-z0-9]+", " ").strip();
    }
}
