import java.lang.reflect.Constructor;
import java.lang.reflect.Executable;
import java.lang.reflect.Field;
import java.lang.reflect.Method;
import java.lang.reflect.Modifier;
import java.util.ArrayList;
import java.util.Arrays;
import java.util.List;
import java.util.Set;
import java.util.TreeSet;
import java.util.stream.Collectors;

/**
 * The class has the face of the document's code block, and nothing else that can be seen from outside.
 * The parameters' names are in the class files by javac's -parameters alone.
 */
public final class FaceTest {
    private static final int METHODS = 20;

    private FaceTest() {
    }

    public static void main(String[] args) throws IllegalAccessException {
        Class<LeaseQueue> type = LeaseQueue.class;
        Checks.sentence("The public face");
        faceIsTheDocuments(type);
        Checks.sentence("Rule 1");
        onlyTheFaceCanBeSeen(type);
        noPrivateMethodBearsAPublicName(type);
        classesInsideAreStaticAndHidden(type);
        Checks.sentence("Rule 5");
        staticFieldsAreFinal(type);
        Checks.end();
    }

    private static void faceIsTheDocuments(Class<?> type) throws IllegalAccessException {
        List<String> due = Document.faceLines();
        List<String> got = faceOf(type);
        for (String line : due) {
            Checks.isTrue("the class has '" + line + "'", got.contains(line));
        }
        for (String line : got) {
            Checks.isTrue("the document has '" + line + "'", due.contains(line));
        }
        Checks.same("lines: the class, NONE, a constructor, methods", 3 + METHODS, got.size());
        Checks.same("NONE", -1, LeaseQueue.NONE);
    }

    /** Told as the document's code block tells it. */
    private static List<String> faceOf(Class<?> type) throws IllegalAccessException {
        List<String> lines = new ArrayList<>();
        lines.add(Modifier.toString(type.getModifiers()) + " class " + type.getName() + " {");
        for (Field field : type.getFields()) {
            lines.add(Modifier.toString(field.getModifiers()) + " " + field.getType() + " " + field.getName()
                    + " = " + field.get(null) + ";");
        }
        for (Constructor<?> constructor : type.getConstructors()) {
            lines.add(Modifier.toString(constructor.getModifiers()) + " " + type.getName() + tail(constructor));
        }
        for (Method method : type.getDeclaredMethods()) {
            if (Modifier.isPublic(method.getModifiers())) {
                lines.add(Modifier.toString(method.getModifiers()) + " " + method.getReturnType() + " "
                        + method.getName() + tail(method));
            }
        }
        return lines;
    }

    private static String tail(Executable call) {
        String parameters = Arrays.stream(call.getParameters())
                .map(parameter -> parameter.getType() + " " + parameter.getName())
                .collect(Collectors.joining(", ", "(", ")"));
        String exceptions = Arrays.stream(call.getExceptionTypes()).map(Class::getSimpleName)
                .collect(Collectors.joining(", "));
        return parameters + (exceptions.isEmpty() ? "" : " throws " + exceptions) + ";";
    }

    private static void onlyTheFaceCanBeSeen(Class<?> type) {
        for (Method method : type.getDeclaredMethods()) {
            Checks.isTrue(method + " is public or private", isPublicOrPrivate(method.getModifiers()));
        }
        for (Constructor<?> constructor : type.getDeclaredConstructors()) {
            Checks.isTrue(constructor + " is public or private", isPublicOrPrivate(constructor.getModifiers()));
        }
        for (Field field : type.getDeclaredFields()) {
            Checks.isTrue(field + " is public or private", isPublicOrPrivate(field.getModifiers()));
        }
    }

    private static boolean isPublicOrPrivate(int modifiers) {
        return Modifier.isPublic(modifiers) || Modifier.isPrivate(modifiers);
    }

    private static void noPrivateMethodBearsAPublicName(Class<?> type) {
        Set<String> publicNames = new TreeSet<>();
        Set<String> privateNames = new TreeSet<>();
        for (Method method : type.getDeclaredMethods()) {
            (Modifier.isPublic(method.getModifiers()) ? publicNames : privateNames).add(method.getName());
        }
        privateNames.retainAll(publicNames);
        Checks.isTrue("private methods with a public one's name " + privateNames + ": none", privateNames.isEmpty());
    }

    private static void classesInsideAreStaticAndHidden(Class<?> type) {
        for (Class<?> inside : type.getDeclaredClasses()) {
            int modifiers = inside.getModifiers();
            Checks.isTrue(inside + " is static and not public or protected", Modifier.isStatic(modifiers)
                    && !Modifier.isPublic(modifiers) && !Modifier.isProtected(modifiers));
        }
    }

    private static void staticFieldsAreFinal(Class<?> type) {
        List<Class<?>> classes = new ArrayList<>(List.of(type.getDeclaredClasses()));
        classes.add(type);
        for (Class<?> one : classes) {
            for (Field field : one.getDeclaredFields()) {
                int modifiers = field.getModifiers();
                Checks.isTrue(field + " is final if it is static",
                        !Modifier.isStatic(modifiers) || Modifier.isFinal(modifiers));
            }
        }
    }
}
