import java.lang.reflect.Method;
import java.nio.file.Files;
import java.nio.file.Path;
import java.util.HashMap;
import java.util.Map;
import java.util.regex.Matcher;
import java.util.regex.Pattern;

/** The lines of Java in README.md, run one behind the other; a comment that begins with an answer tells what is due. */
public final class ReadmeTest extends Bench {
    private static final Pattern MADE = Pattern.compile("GlassEyes court = new GlassEyes\\((\\d)\\);.*");
    private static final Pattern CALL = Pattern.compile(
            "(?:int (\\w+) = )?court\\.(\\w+)\\(([^)]*)\\); +// (-?\\d+|true|false)(?:: .*)?");

    private static GlassEyes court = null;
    private static final Map<String, Integer> VALUES = new HashMap<>(Map.of("GlassEyes.NONE", NONE, "false", 0, "true", 1));

    private static int value(String word) {
        return VALUES.containsKey(word) ? VALUES.get(word) : Integer.decode(word);
    }

    private static Method method(String name) {
        for (Method m : GlassEyes.class.getDeclaredMethods()) {
            if (m.getName().equals(name)) {
                return m;
            }
        }
        throw new IllegalStateException("README.md has a call of " + name);
    }

    private static int answer(String name, String arguments) throws Exception {
        Method m = method(name);
        String[] words = arguments.isEmpty() ? new String[0] : arguments.split(", *");
        Object[] given = new Object[words.length];
        for (int i = 0; i < words.length; i++) {
            if (m.getParameterTypes()[i] == boolean.class) {
                given[i] = value(words[i]) == 1;
            } else {
                given[i] = value(words[i]);
            }
        }
        Object answered = m.invoke(court, given);
        return answered instanceof Boolean ? bit((Boolean) answered) : (Integer) answered;
    }

    private static void runLine(String line) throws Exception {
        Matcher made = MADE.matcher(line);
        Matcher call = CALL.matcher(line);
        if (made.matches()) {
            court = new GlassEyes(value(made.group(1)));
        } else if (call.matches()) {
            int got = answer(call.group(2), call.group(3));
            due("README.md: " + line, got, value(call.group(4)));
            VALUES.put(String.valueOf(call.group(1)), got);
        } else {
            due("README.md: this line can be run: " + line, false, true);
        }
    }

    public static void main(String[] args) throws Exception {
        int lines = 0;
        boolean isJava = false;
        for (String line : Files.readAllLines(Path.of("README.md"))) {
            if (line.startsWith("```")) {
                isJava = line.equals("```java");
            } else if (isJava && !line.isEmpty()) {
                runLine(line);
                lines++;
            }
        }
        due("README.md has lines of Java", lines > 30, true);
        finish();
    }
}
