import java.io.IOException;
import java.lang.reflect.InvocationTargetException;
import java.lang.reflect.Method;
import java.nio.file.Files;
import java.nio.file.Path;
import java.util.HashMap;
import java.util.Map;
import java.util.regex.Matcher;
import java.util.regex.Pattern;

/**
 * The example in README.md does what is written behind it: its calls are read and made, and a line
 * whose note begins with a number, true or false must answer that. Run from the project's root.
 */
public final class ReadmeTest {
    private static final Pattern EXAMPLE = Pattern.compile("(?s)```java\\n(.*?)```");
    private static final Pattern CALL = Pattern.compile("(?:int (\\w+) = )?x\\.(\\w+)\\(([^)]*)\\);");
    private static final Pattern NOTE = Pattern.compile("// (-?\\d+|true|false)\\b");

    private final Check check = new Check("ReadmeTest");
    private final Map<String, Integer> names = new HashMap<>(Map.of("MatchCompile.NONE", MatchCompile.NONE));
    private final MatchCompile x = new MatchCompile();
    private int calls;
    private int notes;

    private Object number(String word) {
        return names.containsKey(word) ? names.get(word) : Integer.valueOf(word);
    }

    private Object make(String name, String[] words) {
        Object[] numbers = new Object[words.length];
        Class<?>[] kinds = new Class<?>[words.length];
        for (int i = 0; i < words.length; i++) {
            numbers[i] = number(words[i].strip());
            kinds[i] = int.class;
        }
        try {
            Method method = MatchCompile.class.getMethod(name, kinds);
            return method.invoke(x, numbers);
        } catch (InvocationTargetException e) {
            return e.getCause();
        } catch (ReflectiveOperationException e) {
            return e;
        }
    }

    private void runLine(String line) {
        Object last = null;
        Matcher call = CALL.matcher(line);
        while (call.find()) {
            String[] words = call.group(3).isEmpty() ? new String[0] : call.group(3).split(",");
            Object answer = make(call.group(2), words);
            check.due(line.strip() + " (" + call.group() + " throws)", false, () -> answer instanceof Throwable);
            if (call.group(1) != null && answer instanceof Integer number) {
                names.put(call.group(1), number);
            }
            last = answer;
            calls++;
        }
        Object answer = last;
        Matcher note = NOTE.matcher(line);
        if (note.find()) {
            check.due(line.strip(), note.group(1), () -> answer);
            notes++;
        }
    }

    public static void main(String[] args) throws IOException {
        ReadmeTest test = new ReadmeTest();
        Matcher example = EXAMPLE.matcher(Files.readString(Path.of("README.md")));
        test.check.due("README.md has an example", true, () -> example.find());
        if (test.check.wrong() == 0) {
            example.group(1).lines().forEach(test::runLine);
        }
        test.check.due("calls and notes are read", true, () -> test.calls > 20 && test.notes > 8);
        test.check.end();
    }
}
