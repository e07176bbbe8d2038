import java.lang.reflect.Constructor;
import java.lang.reflect.Field;
import java.lang.reflect.Method;
import java.lang.reflect.Modifier;
import java.util.Set;
import java.util.TreeSet;

/** The class has the document's face and shows no other member. */
public final class FaceTest {
    private static final Set<String> METHODS = Set.of("put(int)", "end()", "begin()", "drop(int)", "mend(int,int)",
        "set(int,int)", "letter(int)", "bit(int)", "letterOf(int,int)", "count(int)", "cost(int)", "bitsBy(int)",
        "bestPace()", "readBack(int)", "undo()", "type(int)", "clearText()", "write()", "fault(int)", "told(int)");

    private FaceTest() {
    }

    private static String signature(Method method) {
        StringBuilder types = new StringBuilder();
        for (Class<?> type : method.getParameterTypes()) {
            types.append(types.length() == 0 ? "" : ",").append(type.getName());
        }
        return method.getName() + "(" + types + ")";
    }

    private static void constants() {
        Check.due("INVALID_ARGUMENT", LearningSpans.INVALID_ARGUMENT, -1);
        Check.due("NOT_POSSIBLE", LearningSpans.NOT_POSSIBLE, -2);
        Check.due("LIMIT_REACHED", LearningSpans.LIMIT_REACHED, -3);
        Check.due("NOT_FOUND", LearningSpans.NOT_FOUND, -4);
    }

    private static void methods() {
        Set<String> shown = new TreeSet<>();
        Set<String> names = new TreeSet<>();
        for (String signature : METHODS) {
            names.add(signature.substring(0, signature.indexOf('(')));
        }
        for (Method method : LearningSpans.class.getDeclaredMethods()) {
            if (Modifier.isPrivate(method.getModifiers())) {
                Check.holds(method.getName() + " is no public name", !names.contains(method.getName()));
            } else {
                shown.add(signature(method));
                Check.holds(method + " is public, of the object, and returns int", Modifier.isPublic(method.getModifiers())
                    && !Modifier.isStatic(method.getModifiers()) && method.getReturnType() == int.class);
            }
        }
        Check.holds("the methods shown are those of the document: " + shown, shown.equals(METHODS));
        Constructor<?>[] constructors = LearningSpans.class.getDeclaredConstructors();
        Check.due("constructors", constructors.length, 1);
        Check.holds("the constructor is public and takes nothing",
            Modifier.isPublic(constructors[0].getModifiers()) && constructors[0].getParameterCount() == 0);
    }

    private static void fields() {
        int shown = 0;
        for (Field field : LearningSpans.class.getDeclaredFields()) {
            int modifiers = field.getModifiers();
            if (!Modifier.isPrivate(modifiers)) {
                shown++;
                Check.holds(field + " is a public constant",
                    Modifier.isPublic(modifiers) && Modifier.isStatic(modifiers) && field.getType() == int.class);
            }
            Check.holds(field + " is final if static", !Modifier.isStatic(modifiers) || Modifier.isFinal(modifiers));
        }
        Check.due("constants shown", shown, 4);
    }

    private static void insideClasses() {
        for (Class<?> inside : LearningSpans.class.getDeclaredClasses()) {
            Check.holds(inside + " is static and not public",
                Modifier.isStatic(inside.getModifiers()) && !Modifier.isPublic(inside.getModifiers()));
            for (Method method : inside.getDeclaredMethods()) {
                for (String signature : METHODS) {
                    Check.holds(inside + ": " + method.getName() + " is no public name",
                        !signature.startsWith(method.getName() + "("));
                }
            }
        }
        Check.holds("at most twelve classes", LearningSpans.class.getDeclaredClasses().length < 12);
        Check.holds("public and final", Modifier.isPublic(LearningSpans.class.getModifiers())
            && Modifier.isFinal(LearningSpans.class.getModifiers()));
    }

    public static void main(String[] arguments) {
        constants();
        methods();
        fields();
        insideClasses();
        Check.finish();
    }
}
