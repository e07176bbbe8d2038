import java.io.IOException;
import java.nio.file.Files;
import java.nio.file.Path;
import java.util.List;
import java.util.regex.Matcher;
import java.util.regex.Pattern;

/**
 * Those rules of LANGUAGE.md that can be seen in the words of the source; run
 * in the project's folder.
 */
public final class SourceRulesTest {
    private static final Path SOURCE = Path.of("src/main/java/LearningSpans.java");
    private static final int LONGEST_METHOD = 60;
    private static final List<String> BARRED = List.of("\\bthrows?\\b", "\\btry\\b", "\\bcatch\\b", "\\bfinally\\b",
        "\\bsynchronized\\b", "\\bassert\\b", "->", "::", "\\bimport\\b", "\\bpackage\\b", "\\bprotected\\b",
        "\\bSystem\\.(?!arraycopy)", "\\bThread\\b", "\\bRandom\\b", "Exact\\b", "\\bObject\\b", "\\bvar\\b",
        "@\\w+", "\\bequals\\(", "\\bhashCode\\b", "\\btoString\\b", "\\bfloat\\b", "\\bdouble\\b", "\"");

    private SourceRulesTest() {
    }

    private static String withoutComments(String source) {
        return source.replaceAll("(?s)/\\*.*?\\*/", "").replaceAll("//[^\n]*", "");
    }

    private static void barredWords(String code) {
        for (String barred : BARRED) {
            Matcher found = Pattern.compile(barred).matcher(code);
            Check.holds("no " + barred, !found.find());
        }
    }

    private static void shortMethods(String code) {
        int start = 0;
        String[] lines = code.split("\n", -1);
        for (int line = 0; line < lines.length; line++) {
            boolean top = lines[line].matches("    (    )?[^ }].*\\) \\{");
            start = top ? line : start;
            if (lines[line].matches("    (    )?\\}")) {
                Check.holds("the method of line " + (start + 1) + " is short", line - start < LONGEST_METHOD
                    || lines[start].contains("class"));
            }
        }
    }

    public static void main(String[] arguments) throws IOException {
        String source = Files.readString(SOURCE);
        String code = withoutComments(source);
        Check.holds("signs are 1 to 127", source.chars().allMatch(sign -> sign >= 1 && sign <= 127));
        Check.holds("no endless loop by its head", !Pattern.compile("while \\(true\\)|for \\(;;").matcher(code).find());
        barredWords(code);
        shortMethods(code);
        Check.finish();
    }
}
