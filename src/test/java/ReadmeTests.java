import java.io.IOException;
import java.lang.reflect.Method;
import java.nio.file.Files;
import java.nio.file.Path;
import java.util.HashMap;
import java.util.Map;
import java.util.regex.Matcher;
import java.util.regex.Pattern;

/** Makes the calls of README.md's examples, and looks for the answers that stand beside them. */
public final class ReadmeTests extends Check {
    private static final Pattern EXAMPLE = Pattern.compile("(?ms)^```java\n(.*?)^```$");
    private static final Pattern MAKING = Pattern.compile("DrawerCabinet (\\w+) = new DrawerCabinet\\(\\);\n");
    private static final Pattern TYPING = Pattern.compile(
        "for \\(char sign : \"(.*)\"\\.toCharArray\\(\\)\\) \\{\n {4}(\\w+)\\.type\\(sign\\);\n\\}\n");
    private static final Pattern CALL = Pattern.compile("(\\w+)\\.(\\w+)\\((.*)\\); +// (-?[0-9.]+)(: .+)?\n");

    private static final Map<String, DrawerCabinet> CABINETS = new HashMap<>();

    public static void main(String[] args) throws IOException, ReflectiveOperationException {
        String page = Files.readString(Path.of("README.md"));
        Matcher examples = EXAMPLE.matcher(page);
        while (examples.find()) {
            run(examples.group(1));
        }
        holds("there are calls", asked() > 0);
        everyConstant(page);
        end();
    }

    private static void run(String example) throws ReflectiveOperationException {
        String rest = example;
        while (!rest.isEmpty()) {
            Matcher making = MAKING.matcher(rest);
            Matcher typing = TYPING.matcher(rest);
            Matcher call = CALL.matcher(rest);
            if (making.lookingAt()) {
                CABINETS.put(making.group(1), new DrawerCabinet());
                rest = rest.substring(making.end());
            } else if (typing.lookingAt()) {
                type(CABINETS.get(typing.group(2)), typing.group(1));
                rest = rest.substring(typing.end());
            } else if (call.lookingAt()) {
                dueCall(call);
                rest = rest.substring(call.end());
            } else {
                holds("understood: " + rest, false);
                return;
            }
        }
    }

    private static void dueCall(Matcher call) throws ReflectiveOperationException {
        Method method = method(call.group(2));
        Object got = method.invoke(CABINETS.get(call.group(1)), arguments(call.group(3)));
        due(call.group().strip(), ((Number) got).doubleValue(), Double.parseDouble(call.group(4)));
    }

    private static Method method(String name) throws NoSuchMethodException {
        for (Method method : DrawerCabinet.class.getMethods()) {
            if (method.getName().equals(name)) {
                return method;
            }
        }
        throw new NoSuchMethodException(name);
    }

    private static Object[] arguments(String list) {
        if (list.isEmpty()) {
            return new Object[0];
        }
        String[] words = list.split(", ");
        Object[] arguments = new Object[words.length];
        for (int i = 0; i < words.length; i++) {
            arguments[i] = argument(words[i]);
        }
        return arguments;
    }

    private static Object argument(String word) {
        if (word.equals("DrawerCabinet.NONE")) {
            return NONE;
        }
        return word.startsWith("'") ? (Object) word.charAt(1) : (Object) Integer.valueOf(word);
    }

    private static void everyConstant(String page) {
        String[] names = {"UNKNOWN", "BAD_VALUE", "FULL", "NOT_POSSIBLE", "NONE"};
        int[] values = {UNKNOWN, BAD_VALUE, FULL, NOT_POSSIBLE, NONE};
        for (int i = 0; i < names.length; i++) {
            holds(names[i] + " in the table", page.contains("| `" + names[i] + "` | " + values[i] + " |"));
        }
    }
}
