import java.io.IOException;
import java.lang.reflect.Field;
import java.lang.reflect.Method;
import java.lang.reflect.Modifier;
import java.nio.file.Files;
import java.nio.file.Path;
import java.util.Arrays;
import java.util.Set;
import java.util.TreeSet;
import java.util.regex.Matcher;
import java.util.regex.Pattern;

/** The face of the class, and the rules of LANGUAGE.md that can be seen in its source. */
public final class LanguageTests {
    private static final String FACE =
        "build(int,int,int,int):int buildAll():int setBottoms(int,int):int lay(int,int,int):int begin():int giveUp():int"
        + " open(int):int close(int):int lift(int):int take(int):int seal(int):int type(char):int clearText():int"
        + " undo():int keep():int restore():int drawer(int,int):int thing(int,int):int needs(int,int):int hint(int):int"
        + " minutes():double minutesBits():int count(int):int";
    private static final String CONSTANTS = "UNKNOWN BAD_VALUE FULL NOT_POSSIBLE NONE";

    public static void main(String[] args) throws IOException {
        face();
        members(DrawerCabinet.class);
        staticFields(DrawerCabinet.class);
        insideClasses();
        source(Files.readString(Path.of("src/main/java/DrawerCabinet.java")));
        Check.end();
    }

    private static void face() {
        Class<?> c = DrawerCabinet.class;
        Check.holds("public and final", Modifier.isPublic(c.getModifiers()) && Modifier.isFinal(c.getModifiers()));
        Check.due("constructors", c.getDeclaredConstructors().length, 1);
        Check.due("public constructors", c.getConstructors().length, 1);
        Set<String> methods = new TreeSet<>();
        for (Method m : c.getDeclaredMethods()) {
            if (!Modifier.isPrivate(m.getModifiers())) {
                methods.add(signature(m));
                Check.holds(m + " is public alone", m.getModifiers() == Modifier.PUBLIC);
            }
        }
        Check.holds("the methods are " + methods, methods.equals(words(FACE)));
        Set<String> constants = new TreeSet<>();
        for (Field f : c.getDeclaredFields()) {
            if (!Modifier.isPrivate(f.getModifiers())) {
                constants.add(f.getName());
                Check.due(f + "'s modifiers", f.getModifiers(), Modifier.PUBLIC | Modifier.STATIC | Modifier.FINAL);
            }
        }
        Check.holds("the constants are " + constants, constants.equals(words(CONSTANTS)));
    }

    private static String signature(Method m) {
        StringBuilder text = new StringBuilder(m.getName()).append('(');
        for (Class<?> type : m.getParameterTypes()) {
            text.append(text.charAt(text.length() - 1) == '(' ? "" : ",").append(type.getName());
        }
        return text.append("):").append(m.getReturnType().getName()).toString();
    }

    private static Set<String> words(String text) {
        return new TreeSet<>(Arrays.asList(text.split(" ")));
    }

    private static void insideClasses() {
        Class<?>[] inside = DrawerCabinet.class.getDeclaredClasses();
        Check.holds("at most some twelve classes", inside.length <= 11);
        for (Class<?> c : inside) {
            Check.holds(c + " is static", Modifier.isStatic(c.getModifiers()));
            Check.holds(c + " is not public", !Modifier.isPublic(c.getModifiers()));
            members(c);
            staticFields(c);
        }
    }

    private static void members(Class<?> c) {
        int fields = 0;
        for (Field f : c.getDeclaredFields()) {
            fields += Modifier.isStatic(f.getModifiers()) ? 0 : 1;
        }
        Check.holds(c + " has at most twenty fields", fields <= 20);
        Set<String> names = new TreeSet<>();
        for (String method : words(FACE)) {
            names.add(method.substring(0, method.indexOf('(')));
        }
        for (Method m : c.getDeclaredMethods()) {
            Check.holds(m + " has at most seven parameters", m.getParameterCount() <= 7);
            Check.holds(m + " is no lambda", !m.isSynthetic());
            boolean ofFace = c == DrawerCabinet.class && Modifier.isPublic(m.getModifiers());
            Check.holds(m + " has a name of its own", ofFace || !names.contains(m.getName()));
        }
    }

    private static void staticFields(Class<?> c) {
        Set<Class<?>> allowed = Set.of(int.class, long.class, boolean.class, char.class, String.class,
            int[].class, long[].class, char[].class, byte[].class);
        for (Field f : c.getDeclaredFields()) {
            if (Modifier.isStatic(f.getModifiers())) {
                Check.holds(f + " is final", Modifier.isFinal(f.getModifiers()));
                Check.holds(f + " is of an allowed type", allowed.contains(f.getType()));
            }
        }
    }

    private static void source(String source) {
        Check.holds("no package line", !source.startsWith("package") && !source.contains("\npackage"));
        String code = source.replaceAll("(?s)/\\*.*?\\*/", "").replaceAll("//.*", "");
        String[] words = {
            "import", "try", "catch", "finally", "throw", "synchronized", "assert", "hashCode", "equals", "toString",
            "Float", "Double", "Object", "Exception", "Error", "Thread", "null\\s*\\)\\s*\\.", "volatile", "native",
        };
        for (String word : words) {
            Check.holds("no " + word, !Pattern.compile("\\b" + word + "\\b").matcher(code).find());
        }
        Check.holds("no lambda, no method reference", !code.contains("->") && !code.contains("::"));
        Matcher library = Pattern.compile("\\b([A-Z][A-Za-z]+)\\.([a-zA-Z]+)").matcher(code);
        Set<String> allowed = Set.of("Integer.bitCount", "Math.max", "Math.min", "System.arraycopy");
        while (library.find()) {
            Check.holds(library.group() + " is allowed", allowed.contains(library.group()));
        }
        methodLengths(code);
    }

    private static void methodLengths(String code) {
        Pattern start = Pattern.compile("^( {4}| {8})(?! |if|for|while|switch)[\\w\\[\\] ]+\\(.*\\) \\{$");
        String end = null;
        int methods = 0;
        int length = 0;
        for (String line : code.split("\n")) {
            Matcher matcher = start.matcher(line);
            if (end == null && matcher.find()) {
                end = matcher.group(1) + "}";
                methods++;
                length = 0;
            }
            length++;
            if (line.equals(end)) {
                Check.holds("a method of " + length + " lines", length <= 60);
                end = null;
            }
        }
        Check.holds("methods are found", methods > 23);
    }
}
