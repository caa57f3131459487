import java.io.IOException;
import java.lang.reflect.Constructor;
import java.lang.reflect.Field;
import java.lang.reflect.Method;
import java.lang.reflect.Modifier;
import java.nio.file.Files;
import java.nio.file.Path;
import java.util.Arrays;
import java.util.Set;
import java.util.TreeSet;
import java.util.regex.Matcher;
import java.util.regex.Pattern;
import java.util.stream.Collectors;

/** The face is the document's and no more (rule 1 of LANGUAGE.md); run from the project's root. */
public final class FaceTest {
    private static final String[] METHODS = {
        "int type() throws IllegalStateException",
        "int maker(int, int, int, int) throws IndexOutOfBoundsException, IllegalStateException",
        "boolean isEmpty(int) throws IndexOutOfBoundsException",
        "void match(int, int, int) throws IndexOutOfBoundsException",
        "int sign(int) throws IllegalStateException, IllegalArgumentException",
        "int row() throws IllegalStateException, IllegalArgumentException",
        "int compile() throws IllegalStateException, UnsupportedOperationException",
        "int node(int, int) throws NoSuchElementException",
        "int missing()",
        "int missingSign(int, int) throws NoSuchElementException",
        "boolean isIdle(int) throws NoSuchElementException",
        "int give(int) throws IllegalStateException, IllegalArgumentException",
        "int answer() throws IllegalStateException, IllegalArgumentException",
        "int tests() throws IllegalStateException, IllegalArgumentException, NoSuchElementException",
        "void empty()",
        "int about(int)",
    };

    private static String names(Class<?>[] classes) {
        return Arrays.stream(classes).map(Class::getSimpleName).collect(Collectors.joining(", "));
    }

    private static String tell(Method method) {
        String thrown = names(method.getExceptionTypes());
        return method.getReturnType().getSimpleName() + " " + method.getName() + "("
            + names(method.getParameterTypes()) + ")" + (thrown.isEmpty() ? "" : " throws " + thrown);
    }

    /** The methods of the document's section 'The public face', without the parameters' names. */
    private static Set<String> documentsMethods() throws IOException {
        String document = Files.readString(Path.of("../shared/DOC.md"));
        Set<String> methods = new TreeSet<>();
        Matcher method = Pattern.compile("(?m)^    public (\\w+ \\w+\\(.*);$").matcher(document);
        while (method.find()) {
            methods.add(method.group(1).replaceAll("\\bint \\w+(?=[,)])", "int"));
        }
        return methods;
    }

    /** Rule 11 of LANGUAGE.md. */
    private static void countParts(Check check, Class<?> each) {
        long fields = Arrays.stream(each.getDeclaredFields()).filter(f -> !Modifier.isStatic(f.getModifiers())).count();
        check.due(each + " has at most twenty fields", true, () -> fields <= 20);
        for (Method method : each.getDeclaredMethods()) {
            check.due(method + " takes at most seven parameters", true, () -> method.getParameterCount() <= 7);
        }
    }

    public static void main(String[] args) throws IOException {
        Check check = new Check("FaceTest");
        Class<?> face = MatchCompile.class;
        check.due("the class is public and final", true,
            () -> Modifier.isPublic(face.getModifiers()) && Modifier.isFinal(face.getModifiers()));

        Set<String> open = new TreeSet<>();
        Set<String> publicNames = new TreeSet<>();
        for (Method method : face.getDeclaredMethods()) {
            if (!Modifier.isPrivate(method.getModifiers())) {
                open.add(tell(method));
                publicNames.add(method.getName());
                check.due(method + " is public", true, () -> Modifier.isPublic(method.getModifiers()));
                check.due(method + " is of the object", false, () -> Modifier.isStatic(method.getModifiers()));
            }
        }
        check.due("methods that are not private", new TreeSet<>(Arrays.asList(METHODS)), () -> open);
        Set<String> inDocument = documentsMethods();
        check.due("the document's methods", new TreeSet<>(Arrays.asList(METHODS)), () -> inDocument);

        Set<String> fields = new TreeSet<>();
        for (Field field : face.getDeclaredFields()) {
            if (!Modifier.isPrivate(field.getModifiers())) {
                fields.add(Modifier.toString(field.getModifiers()) + " " + field.getType() + " " + field.getName());
            }
        }
        check.due("fields that are not private", "[public static final int NONE]", () -> fields);
        check.due("NONE", -1, () -> MatchCompile.NONE);

        Constructor<?>[] made = face.getDeclaredConstructors();
        check.due("constructors", "[public MatchCompile()]", () -> Arrays.toString(made));

        countParts(check, face);
        for (Class<?> inside : face.getDeclaredClasses()) {
            countParts(check, inside);
            check.due(inside + " is static", true, () -> Modifier.isStatic(inside.getModifiers()));
            for (Method method : inside.getDeclaredMethods()) {
                check.due(inside + " bears " + method.getName(), false, () -> publicNames.contains(method.getName()));
            }
        }
        check.due("at most twelve classes", true, () -> face.getDeclaredClasses().length < 12);
        check.end();
    }
}
