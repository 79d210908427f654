import java.io.IOException;
import java.nio.file.Files;
import java.nio.file.Path;
import java.util.List;
import java.util.regex.Matcher;
import java.util.regex.Pattern;

/**
 * Looks through the source for what ../shared/LANGUAGE.md rules out, as far as that can be seen word by
 * word. It runs in the project's directory, as .ci/run does.
 */
public final class LanguageTest {
    private static final Path SOURCE = Path.of("src/main/java/KnotDiagram.java");
    private static final List<String> FORBIDDEN = List.of("\\bthrow", "\\btry\\b", "\\bcatch\\b", "\\bfinally\\b",
            "\\bsynchronized\\b", "\\bassert\\b", "\\bimport\\b", "\\bpackage\\b", "->", "::", "@", "\\bvar\\b",
            "\\binstanceof\\b", "\\bObject\\b", "\\bSystem\\.(?!arraycopy)", "\\bThread\\b", "\\bRandom\\b",
            "\\w+Exact\\b", "\\b(equals|hashCode|toString)\\b", "\\bprotected\\b", "while \\(true\\)", "for \\(;;\\)",
            "\\bfloat\\b|\\bdouble\\b", "\\bjava\\.", "\"", "\\bnull\\b");

    private LanguageTest() {
    }

    public static void main(String[] args) throws IOException {
        String code = withoutComments(Files.readString(SOURCE));
        for (String forbidden : FORBIDDEN) {
            Matcher matcher = Pattern.compile(forbidden).matcher(code);
            Check.holds("forbidden: " + forbidden, !matcher.find());
        }
        for (char sign : Files.readString(SOURCE).toCharArray()) {
            Check.holds("a sign above 126", sign < 127);
        }
        methodsAreShort(code);
        staticFieldsAreConstants(code);
        Check.finish();
    }

    private static String withoutComments(String source) {
        return source.replaceAll("(?s)/\\*.*?\\*/", "").replaceAll("//[^\n]*", "");
    }

    private static void methodsAreShort(String code) {
        Matcher method = Pattern.compile("(?m)^( +)(?:[a-z]+ )*[\\w\\[\\]]+ (\\w+)\\([^)]*\\) \\{$").matcher(code);
        int methods = 0;
        while (method.find()) {
            int end = code.indexOf("\n" + method.group(1) + "}", method.end());
            long lines = code.substring(method.end(), Math.max(end, method.end())).lines().count();
            Check.holds(method.group(2) + " has " + lines + " lines", end > 0 && lines <= 60);
            methods++;
        }
        Check.holds("only " + methods + " methods found", methods > 60);
    }

    private static void staticFieldsAreConstants(String code) {
        for (String line : code.split("\n")) {
            boolean isStaticField = line.contains(" static ") && line.endsWith(";");
            Check.holds("no constant: " + line, !isStaticField || line.contains(" static final int "));
        }
    }
}
