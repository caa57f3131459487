import java.io.IOException;
import java.nio.file.Files;
import java.nio.file.Path;
import java.util.List;
import java.util.Set;
import java.util.TreeSet;
import java.util.regex.Matcher;
import java.util.regex.Pattern;

/** What can be seen in the file of the rules of LANGUAGE.md; run from the project's root. */
public final class SourceTest {
    private static final List<String> RULED_OUT = List.of("->", "::", "\\btry\\b", "\\bcatch\\b", "\\bfinally\\b",
        "\\bsynchronized\\b", "\\bassert\\b", "\\bstatic\\s*\\{", "\\bpackage\\b", "\\w+Exact\\b", "\\bSystem\\.(?!arraycopy\\b)",
        "\\bRandom\\b", "\\bThread\\b", "\\bgetMessage\\b", "\\bhashCode\\b", "\\bvar\\b", "@\\w+", "[^\\x00-\\x7f]");
    private static final int LONGEST_METHOD = 60;

    private static String withoutComments(String source) {
        return source.replaceAll("(?s)/\\*.*?\\*/", "").replaceAll("//.*", "").replaceAll("\"[^\"\n]*\"", "\"\"");
    }

    private static Set<String> found(String pattern, String source) {
        Set<String> all = new TreeSet<>();
        Matcher matcher = Pattern.compile(pattern).matcher(source);
        while (matcher.find()) {
            all.add(matcher.group());
        }
        return all;
    }

    /** By the file's own form: a method's head ends a line, and its last brace has the head's margin. */
    private static int longestMethod(List<String> lines) {
        int longest = 0;
        for (int i = 0; i < lines.size(); i++) {
            Matcher head = Pattern.compile("^((?: {4}){1,2})\\w[\\w \\[\\]]* ?\\w+\\(.*\\{$").matcher(lines.get(i));
            if (head.find()) {
                int end = i;
                while (!lines.get(end).equals(head.group(1) + "}")) {
                    end++;
                }
                longest = Math.max(longest, end - i + 1);
            }
        }
        return longest;
    }

    public static void main(String[] args) throws IOException {
        Check check = new Check("SourceTest");
        Path path = Path.of("src/main/java/MatchCompile.java");
        String source = withoutComments(Files.readString(path));
        for (String pattern : RULED_OUT) {
            check.due(pattern + " in the file", "[]", () -> found(pattern, source));
        }
        check.due("imports", "[import java.util.Arrays;, import java.util.NoSuchElementException;]",
            () -> found("import [^;]*;", source));
        check.due("static fields that are not final", "[]", () -> found("\\bstatic (?!final\\b)[^;{(]*;", source));
        int longest = longestMethod(Files.readAllLines(path));
        check.due("the longest method of " + longest + " lines", true, () -> longest > 5 && longest <= LONGEST_METHOD);
        check.end();
    }
}
