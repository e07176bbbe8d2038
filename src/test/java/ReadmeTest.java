import java.io.ByteArrayOutputStream;
import java.io.File;
import java.io.IOException;
import java.io.PrintStream;
import java.lang.reflect.InvocationTargetException;
import java.lang.reflect.Method;
import java.lang.reflect.Modifier;
import java.net.URL;
import java.net.URLClassLoader;
import java.nio.file.Files;
import java.nio.file.Path;
import java.util.ArrayList;
import java.util.HashSet;
import java.util.List;
import java.util.Set;
import java.util.regex.Matcher;
import java.util.regex.Pattern;
import javax.tools.ToolProvider;

/**
 * README.md answers as it says: each call of its examples, what its program
 * prints, and what its tables name; run in the project's folder.
 */
public final class ReadmeTest {
    private static final Path README = Path.of("README.md");
    private static final Path PROGRAM = Path.of("build/readme");
    private static final String MADE = "LearningSpans x = new LearningSpans();";
    private static final Pattern EXAMPLE = Pattern.compile("x\\.(\\w+)\\(([-\\d, ]*)\\); +// (-?\\w+)(:.*)?");
    private static final Pattern CALL = Pattern.compile("\\| `(\\w+)\\(([\\w, ]*)\\)` \\|.*");
    private static final Pattern CONSTANT = Pattern.compile("\\| `(\\w+)` \\| (-\\d+) \\|.*");

    private ReadmeTest() {
    }

    /** What stands in the pieces of one language. */
    private static List<String> pieces(String page, String language) {
        List<String> pieces = new ArrayList<>();
        Matcher found = Pattern.compile("(?ms)^```" + language + "\n(.*?)^```$").matcher(page);
        while (found.find()) {
            pieces.add(found.group(1));
        }
        return pieces;
    }

    private static Method method(String name) {
        for (Method method : LearningSpans.class.getDeclaredMethods()) {
            if (Modifier.isPublic(method.getModifiers()) && method.getName().equals(name)) {
                return method;
            }
        }
        return null;
    }

    private static Object[] numbers(String list) {
        List<Object> numbers = new ArrayList<>();
        for (String number : list.isBlank() ? new String[0] : list.split(", ")) {
            numbers.add(Integer.valueOf(number));
        }
        return numbers.toArray();
    }

    /** The number that is written, or that a constant of this name has. */
    private static int number(String word) throws ReflectiveOperationException {
        return word.matches("-?\\d+") ? Integer.parseInt(word) : LearningSpans.class.getField(word).getInt(null);
    }

    private static int examples(String piece) throws ReflectiveOperationException {
        LearningSpans x = null;
        int calls = 0;
        for (String line : piece.split("\n")) {
            Matcher example = EXAMPLE.matcher(line);
            if (line.equals(MADE)) {
                x = new LearningSpans();
            } else if (x == null || !example.matches()) {
                Check.holds("a call with its answer: " + line, false);
            } else {
                Object got = method(example.group(1)).invoke(x, numbers(example.group(2)));
                Check.due("README.md: " + line, (Integer) got, number(example.group(3)));
                calls++;
            }
        }
        return calls;
    }

    private static boolean isProgram(String piece) {
        return piece.contains("public static void main");
    }

    private static void examplesOf(String page) throws ReflectiveOperationException {
        int calls = 0;
        for (String piece : pieces(page, "java")) {
            calls += isProgram(piece) ? 0 : examples(piece);
        }
        Check.holds("there are examples", calls > 0);
    }

    private static String printed(Class<?> program) throws ReflectiveOperationException {
        PrintStream before = System.out;
        ByteArrayOutputStream row = new ByteArrayOutputStream();
        try (PrintStream out = new PrintStream(row)) {
            System.setOut(out);
            program.getMethod("main", String[].class).invoke(null, (Object) new String[0]);
        } finally {
            System.setOut(before);
        }
        return row.toString().replace(System.lineSeparator(), "\n");
    }

    private static void programPrints(String program, String want) throws IOException, ReflectiveOperationException {
        Path source = PROGRAM.resolve("Example.java");
        Files.createDirectories(PROGRAM);
        Files.writeString(source, program);
        String classes = System.getProperty("java.class.path") + File.pathSeparator + ".";
        Check.due("README.md: its program compiles", ToolProvider.getSystemJavaCompiler().run(null, null, null,
            "--release", "17", "-cp", classes, "-d", PROGRAM.toString(), source.toString()), 0);
        try (URLClassLoader loader = new URLClassLoader(new URL[] {PROGRAM.toUri().toURL()})) {
            String got = printed(loader.loadClass("Example"));
            Check.holds("README.md: its program prints " + got, got.equals(want));
        }
    }

    private static void programsOf(String page) throws IOException, ReflectiveOperationException {
        List<String> outputs = pieces(page, "text");
        int programs = 0;
        for (String piece : pieces(page, "java")) {
            if (isProgram(piece)) {
                programPrints(piece, programs < outputs.size() ? outputs.get(programs) : "");
                programs++;
            }
        }
        Check.due("README.md: programs", programs, 1);
        Check.due("README.md: what they print", outputs.size(), programs);
    }

    private static void callsOf(String page) {
        Set<String> named = new HashSet<>();
        for (String line : page.split("\n")) {
            Matcher call = CALL.matcher(line);
            if (call.matches()) {
                Method method = method(call.group(1));
                int arguments = call.group(2).isEmpty() ? 0 : call.group(2).split(", ").length;
                named.add(call.group(1));
                Check.holds("README.md: there is the call of " + line,
                    method != null && method.getParameterCount() == arguments);
            }
        }
        for (Method method : LearningSpans.class.getDeclaredMethods()) {
            Check.holds("README.md names " + method.getName(),
                !Modifier.isPublic(method.getModifiers()) || named.contains(method.getName()));
        }
    }

    private static void constantsOf(String page) throws ReflectiveOperationException {
        int constants = 0;
        for (String line : page.split("\n")) {
            Matcher constant = CONSTANT.matcher(line);
            if (constant.matches()) {
                constants++;
                Check.due("README.md: " + constant.group(1), Integer.parseInt(constant.group(2)),
                    number(constant.group(1)));
            }
        }
        Check.due("README.md: constants", constants, 4);
    }

    private static void testsOf(String page) {
        String[] files = Path.of("src/test/java").toFile().list();
        Check.holds("there are tests", files != null && files.length > 0);
        for (String file : files == null ? new String[0] : files) {
            String name = file.replace(".java", "");
            Check.holds("README.md names " + name, !name.endsWith("Test") || page.contains("`" + name + "`"));
        }
        Check.holds("README.md names the command", page.contains("\n    .ci/run\n") && new File(".ci/run").canExecute());
    }

    public static void main(String[] arguments) throws IOException, ReflectiveOperationException {
        String page = Files.readString(README);
        try {
            examplesOf(page);
            programsOf(page);
        } catch (InvocationTargetException thrown) {
            Check.holds("README.md: an example throws " + thrown.getCause(), false);
        }
        callsOf(page);
        constantsOf(page);
        testsOf(page);
        Check.finish();
    }
}
