import java.io.IOException;
import java.lang.reflect.Field;
import java.lang.reflect.Method;
import java.lang.reflect.Modifier;
import java.nio.file.Files;
import java.nio.file.Path;
import java.util.List;
import java.util.Set;
import java.util.regex.Matcher;
import java.util.regex.Pattern;

/**
 * Those rules of LANGUAGE.md that can be seen in the words of the source and in
 * its classes; run in the project's folder.
 */
public final class SourceRulesTest {
    private static final Path SOURCE = Path.of("src/main/java/LearningSpans.java");
    private static final int LONGEST_METHOD = 60;
    private static final Set<String> LIBRARY = Set.of("Math.max", "Math.min", "System.arraycopy");
    private static final List<String> BARRED = List.of("\\bthrows?\\b", "\\btry\\b", "\\bcatch\\b", "\\bfinally\\b",
        "\\bsynchronized\\b", "\\bassert\\b", "->", "::", "\\bimport\\b", "\\bpackage\\b", "\\bprotected\\b",
        "\\bSystem\\.(?!arraycopy)", "\\bThread\\b", "\\bRandom\\b", "Exact\\b", "\\bObject\\b", "\\bvar\\b",
        "@\\w+", "\\bequals\\(", "\\bhashCode\\b", "\\btoString\\b", "\\bfloat\\b", "\\bdouble\\b", "\"",
        "\\bstatic \\{", "\\binstanceof\\b", "\\bwhile\\b");

    private SourceRulesTest() {
    }

    private static String withoutComments(String source) {
        return source.replaceAll("(?s)/\\*.*?\\*/", "").replaceAll("//[^\n]*", "");
    }

    private static void barredWords(String code) {
        for (String barred : BARRED) {
            Matcher found = Pattern.compile(barred).matcher(code);
            Check.holds("no " + barred, !found.find());
        }
    }

    private static boolean opensMethod(String line) {
        return line.matches("    (    )?[^ }].*\\) \\{") && !line.matches(" *(if|for|while|switch|do|else)\\b.*");
    }

    private static void shortMethods(String code) {
        int start = -1;
        int methods = 0;
        String[] lines = code.split("\n", -1);
        for (int line = 0; line < lines.length; line++) {
            if (opensMethod(lines[line])) {
                start = line;
                methods++;
            }
            if (start >= 0 && lines[line].equals(lines[start].replaceAll("[^ ].*", "}"))) {
                Check.holds("the method of line " + (start + 1) + " is short", line - start < LONGEST_METHOD);
                start = -1;
            }
        }
        Check.due("methods that were not seen to close", start, -1);
        Check.holds("methods were seen", methods > 20);
    }

    /** Names that begin with a capital and are asked for something: constants of our own aside, the library. */
    private static void library(String code) {
        Matcher used = Pattern.compile("\\b[A-Z][a-z]\\w*\\.\\w+").matcher(code);
        while (used.find()) {
            Check.holds(used.group() + " is in the library that is left", LIBRARY.contains(used.group()));
        }
        Matcher made = Pattern.compile("\\bnew (\\w+)").matcher(code);
        while (made.find()) {
            Check.holds(made.group() + " makes rows or what is our own", made.group(1).equals("int")
                || code.contains("class " + made.group(1) + " "));
        }
    }

    private static boolean isOwnOrPlain(Class<?> type) {
        Class<?> part = type.isArray() ? type.getComponentType() : type;
        return part == int.class || part == boolean.class || part == void.class
            || part.getEnclosingClass() == LearningSpans.class;
    }

    private static void shape(Class<?> one) {
        int fields = 0;
        for (Field field : one.getDeclaredFields()) {
            boolean constant = Modifier.isStatic(field.getModifiers());
            fields += constant ? 0 : 1;
            Check.holds(field + " is a constant number or a field of the object", !constant
                || Modifier.isFinal(field.getModifiers()) && field.getType() == int.class);
            Check.holds(field + " has a type that is left", isOwnOrPlain(field.getType()));
        }
        Check.holds(one + " has few fields", fields <= 20);
        for (Method method : one.getDeclaredMethods()) {
            Check.holds(method + " takes few parameters", method.getParameterCount() <= 7);
            Check.holds(method + " answers what is left", isOwnOrPlain(method.getReturnType()));
            for (Class<?> parameter : method.getParameterTypes()) {
                Check.holds(method + " takes what is left", isOwnOrPlain(parameter));
            }
        }
        Check.due(one + ": classes inside a class inside", one == LearningSpans.class ? 0
            : one.getDeclaredClasses().length, 0);
    }

    private static void shapes() {
        shape(LearningSpans.class);
        for (Class<?> inside : LearningSpans.class.getDeclaredClasses()) {
            shape(inside);
        }
    }

    public static void main(String[] arguments) throws IOException {
        String source = Files.readString(SOURCE);
        String code = withoutComments(source);
        Check.holds("signs are 1 to 127", source.chars().allMatch(sign -> sign >= 1 && sign <= 127));
        Check.holds("no endless loop by its head", !Pattern.compile("while \\(true\\)|for \\(;;").matcher(code).find());
        barredWords(code);
        shortMethods(code);
        library(code);
        shapes();
        Check.finish();
    }
}
