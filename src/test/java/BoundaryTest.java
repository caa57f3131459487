import java.io.IOException;
import java.lang.reflect.InvocationTargetException;
import java.lang.reflect.Method;
import java.nio.file.Files;
import java.nio.file.Path;
import java.util.ArrayList;
import java.util.Comparator;
import java.util.LinkedHashMap;
import java.util.List;
import java.util.Map;
import java.util.regex.Matcher;
import java.util.regex.Pattern;

/**
 * The boundary cases of the document: each test is for one sentence of it, and is told by its section
 * and the sentence. The words that a test names must stand in the document, and no sentence of the
 * promises and of the terms may be without a test. Run from the project's root.
 */
public final class BoundaryTest {
    private static final Path DOCUMENT = Path.of("../shared/DOC.md");
    private static final int PROMISES = 17;

    private final Check check = new Check("BoundaryTest");
    private final Map<String, String> sections = new LinkedHashMap<>();
    private final Map<String, List<int[]>> named = new LinkedHashMap<>();

    private static String plain(String text) {
        return text.replace("`", "").replaceAll("\\s+", " ").strip();
    }

    private void readDocument() throws IOException {
        for (String section : Files.readString(DOCUMENT).split("(?m)^## ")) {
            int end = section.indexOf('\n');
            String name = section.substring(0, end).replaceFirst(":.*", "");
            String body = section.substring(end).replaceAll("(?m)^```\\w*$", "");
            sections.put(name, plain(body.replaceFirst("^\\s*`[^`]*`: ", "")));
        }
    }

    private void name(Says says) {
        String text = plain(says.text());
        int at = sections.getOrDefault(says.in(), "").indexOf(text);
        check.due("the document's " + says.in() + " has the words \"" + text + "\"", true, () -> at >= 0);
        named.computeIfAbsent(says.in(), in -> new ArrayList<>()).add(new int[] {at, at + text.length()});
    }

    private void run(Method test) {
        Says says = test.getAnnotation(Says.class);
        check.within("");
        name(says);
        check.within(says.in() + ", \"" + says.text() + "\" (" + test.getName() + "): ");
        int before = check.made();
        try {
            test.invoke(null, check);
        } catch (InvocationTargetException e) {
            check.due("the test", "to come to its end", () -> e.getCause());
        } catch (IllegalAccessException e) {
            check.due("the test", "to be run", () -> e);
        }
        check.due("the test asks something", true, () -> check.made() > before + 1);
    }

    private int runAll(Class<?> tests) {
        List<Method> methods = new ArrayList<>();
        for (Method method : tests.getDeclaredMethods()) {
            if (method.isAnnotationPresent(Says.class)) {
                methods.add(method);
            }
        }
        methods.sort(Comparator.comparing(Method::getName));
        methods.forEach(this::run);
        return methods.size();
    }

    private boolean isNamed(String section, int from, int to) {
        return named.getOrDefault(section, List.of()).stream().anyMatch(n -> n[0] < to && n[1] > from);
    }

    /** A part of a sentence, up to a semicolon or its end, is named if a test names some of its words. */
    private void noneLeftOut(String section) {
        String text = sections.getOrDefault(section, "");
        check.due(section + " is in the document", true, () -> text.length() > 0);
        Matcher part = Pattern.compile("\\S.*?[.;](?= |$)").matcher(text);
        while (part.find()) {
            int from = part.start();
            int to = part.end();
            check.due("a test for " + section + ", \"" + part.group() + "\"", true, () -> isNamed(section, from, to));
        }
    }

    public static void main(String[] args) throws IOException {
        BoundaryTest test = new BoundaryTest();
        test.readDocument();
        int tests = test.runAll(PromiseBounds.class) + test.runAll(TermBounds.class);
        test.check.within("");
        for (int promise = 1; promise <= PROMISES; promise++) {
            test.noneLeftOut("Promise " + promise);
        }
        test.noneLeftOut("Terms");
        System.out.println(tests + " tests, each for a sentence");
        test.check.end();
    }
}
