import java.io.IOException;
import java.lang.reflect.InvocationTargetException;
import java.lang.reflect.Method;
import java.nio.file.Files;
import java.nio.file.Path;
import java.util.HashMap;
import java.util.Map;
import java.util.regex.Matcher;
import java.util.regex.Pattern;

/** Makes the calls of README.md's example, and compares the answers with those behind the calls. */
public final class ReadmeTest {
    private static final Check CHECK = new Check();
    private static final Pattern EXAMPLE = Pattern.compile("(?s)```java\n(.*?)```");
    private static final Pattern CALL = Pattern.compile(
            "(?:int (\\w+) = )?x\\.(\\w+)\\(([^)]*)\\);\\s*(?://\\s*(.*))?");
    /** A comment that begins with the answer, or with the number of a statement. */
    private static final Pattern ANSWER =
            Pattern.compile("(?:statement )?(-?\\d+|true|false)(?::.*)?");

    private final Map<String, Integer> names = new HashMap<>();
    private final TypeForecast x = new TypeForecast();
    private int answers;

    public static void main(String[] args) throws IOException, ReflectiveOperationException {
        Matcher example = EXAMPLE.matcher(Files.readString(Path.of("README.md")));
        int examples = 0;
        while (example.find()) {
            examples++;
            new ReadmeTest().goThrough(example.group(1));
        }
        CHECK.same("examples", examples, 1);
        CHECK.finish();
    }

    private void goThrough(String example) throws ReflectiveOperationException {
        String[] lines = example.split("\n");
        CHECK.yes("the first line", lines[0].equals("TypeForecast x = new TypeForecast();"));
        for (int i = 1; i < lines.length; i++) {
            Matcher call = CALL.matcher(lines[i]);
            if (call.matches()) {
                compare(lines[i], call);
            } else {
                CHECK.yes(lines[i] + " is a call", lines[i].isEmpty());
            }
        }
        CHECK.yes("answers stand behind most calls", answers > 15);
    }

    private void compare(String line, Matcher call) throws ReflectiveOperationException {
        int got = answer(call.group(2), call.group(3));
        if (call.group(1) != null) {
            names.put(call.group(1), got);
        }
        Matcher due = ANSWER.matcher(call.group(4) == null ? "" : call.group(4));
        if (due.matches()) {
            answers++;
            CHECK.same(line, got, number(due.group(1)));
        } else {
            CHECK.yes(line + " is not refused", got != -1);
        }
    }

    private int number(String word) {
        if (word.equals("true") || word.equals("false")) {
            return word.equals("true") ? 1 : 0;
        }
        return names.containsKey(word) ? names.get(word) : Integer.parseInt(word);
    }

    private int answer(String name, String arguments)
            throws IllegalAccessException, InvocationTargetException {
        String[] words = arguments.isEmpty() ? new String[0] : arguments.split(", ");
        for (Method method : TypeForecast.class.getMethods()) {
            if (method.getName().equals(name) && method.getParameterCount() == words.length) {
                Object[] values = new Object[words.length];
                for (int i = 0; i < words.length; i++) {
                    boolean isInt = method.getParameterTypes()[i] == int.class;
                    values[i] = isInt ? (Object) number(words[i]) : Boolean.valueOf(words[i]);
                }
                Object answer = method.invoke(x, values);
                return answer instanceof Boolean truth ? truth ? 1 : 0 : (Integer) answer;
            }
        }
        CHECK.yes(name + " is a method", false);
        return -1;
    }
}
