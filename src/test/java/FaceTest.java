import java.lang.reflect.Constructor;
import java.lang.reflect.Field;
import java.lang.reflect.Method;
import java.lang.reflect.Modifier;
import java.util.Arrays;
import java.util.List;
import java.util.Set;
import java.util.TreeSet;
import java.util.stream.Collectors;

/** The class has the document's face, and nothing else that can be seen from outside. */
public final class FaceTest {
    private static final List<String> METHODS = List.of(
            "int push(int,int,int,int,int) IllegalArgumentException UnsupportedOperationException",
            "int await(int) IllegalArgumentException IllegalStateException",
            "int take(int,int,int) IllegalArgumentException",
            "int takeAny(int,int) IllegalArgumentException",
            "boolean done(int,int) IllegalArgumentException",
            "boolean fail(int,int,int) IllegalArgumentException",
            "boolean extend(int,int,int) IllegalArgumentException",
            "int chance(int) IllegalArgumentException",
            "int pass(int) IllegalArgumentException",
            "int write()",
            "int crash()",
            "boolean safe(boolean)",
            "int limit(int,int) IllegalArgumentException",
            "void rate(int,int,int) IllegalArgumentException",
            "int tries(int,int) IllegalArgumentException",
            "int about(int,int) IllegalArgumentException",
            "int count(int,int) IllegalArgumentException",
            "int peek(int,int) IllegalArgumentException",
            "int next(int) IllegalArgumentException",
            "int total(int) IllegalArgumentException");

    private FaceTest() {
    }

    public static void main(String[] args) {
        Class<LeaseQueue> type = LeaseQueue.class;
        Checks.isTrue("the class is public and final",
                Modifier.isPublic(type.getModifiers()) && Modifier.isFinal(type.getModifiers()));
        methodsAreThoseOfTheDocument(type);
        constructorsAndConstants(type);
        noPrivateMethodBearsAPublicName(type);
        for (Class<?> inside : type.getDeclaredClasses()) {
            int modifiers = inside.getModifiers();
            Checks.isTrue(inside + " is static and not public or protected", Modifier.isStatic(modifiers)
                    && !Modifier.isPublic(modifiers) && !Modifier.isProtected(modifiers));
        }
        Checks.end();
    }

    private static void methodsAreThoseOfTheDocument(Class<?> type) {
        Set<String> seen = new TreeSet<>();
        for (Method method : type.getDeclaredMethods()) {
            if (!Modifier.isPrivate(method.getModifiers())) {
                Checks.isTrue(method + " is public, no more", method.getModifiers() == Modifier.PUBLIC);
                seen.add(tell(method));
            }
        }
        Checks.isTrue("methods " + seen + " are those of the document", seen.equals(new TreeSet<>(METHODS)));
    }

    private static String tell(Method method) {
        return method.getReturnType() + " " + method.getName()
                + Arrays.stream(method.getParameterTypes()).map(Class::getName)
                        .collect(Collectors.joining(",", "(", ")"))
                + Arrays.stream(method.getExceptionTypes()).map(e -> " " + e.getSimpleName())
                        .collect(Collectors.joining());
    }

    private static void constructorsAndConstants(Class<?> type) {
        Constructor<?>[] constructors = type.getDeclaredConstructors();
        Checks.isTrue("there is one public constructor without parameters", constructors.length == 1
                && constructors[0].getModifiers() == Modifier.PUBLIC && constructors[0].getParameterCount() == 0);
        for (Field field : type.getDeclaredFields()) {
            int modifiers = field.getModifiers();
            boolean isNone = field.getName().equals("NONE") && field.getType() == int.class
                    && modifiers == (Modifier.PUBLIC | Modifier.STATIC | Modifier.FINAL);
            Checks.isTrue(field + " is NONE or private", isNone || Modifier.isPrivate(modifiers));
            Checks.isTrue(field + " is final if it is static",
                    !Modifier.isStatic(modifiers) || Modifier.isFinal(modifiers));
        }
        Checks.same("NONE", -1, LeaseQueue.NONE);
    }

    private static void noPrivateMethodBearsAPublicName(Class<?> type) {
        Set<String> names = METHODS.stream().map(m -> m.replaceAll("^\\w+ (\\w+).*", "$1"))
                .collect(Collectors.toSet());
        for (Method method : type.getDeclaredMethods()) {
            if (Modifier.isPrivate(method.getModifiers())) {
                Checks.isFalse(method + " bears a public name", names.contains(method.getName()));
            }
        }
    }
}
