import java.lang.reflect.InvocationTargetException;
import java.lang.reflect.Method;
import java.lang.reflect.Modifier;
import java.util.ArrayList;
import java.util.Arrays;
import java.util.Comparator;
import java.util.List;
import java.util.function.Consumer;
import java.util.function.ObjIntConsumer;
import java.util.function.Supplier;

/** Counts the checks that fail and prints each of them. */
final class Checks {
    private static int made = 0;
    private static int wrong = 0;
    private static String sentence = "";
    private static final List<String> quoted = new ArrayList<>();

    private Checks() {
    }

    /** The document's words that the checks behind this call are about; reports begin with them. */
    static void sentence(String words) {
        sentence = words;
        quoted.add(words);
    }

    /** The tests that were run quoted the text sentence by sentence, and left nothing of it out. */
    static void allWasQuoted(String what, String text) {
        String rest = text;
        for (String words : quoted) {
            rest = rest.replace(words, "");
        }
        sentence = what;
        isFalse("empty", text.isEmpty());
        isTrue("a test for each sentence (there is none for '" + rest.strip() + "')", rest.isBlank());
    }

    static void same(String what, long due, long got) {
        made++;
        if (due != got) {
            report(what + " answered " + got + ", due is " + due);
        }
    }

    static void isTrue(String what, boolean got) {
        made++;
        if (!got) {
            report(what + " does not hold");
        }
    }

    static void isFalse(String what, boolean got) {
        isTrue("not " + what, !got);
    }

    /** The very class is due, since a caller may catch a class above it for something else. */
    static void throwsException(String what, Class<? extends RuntimeException> due, Runnable call) {
        made++;
        try {
            call.run();
            report(what + " threw nothing, due is " + due.getSimpleName());
        } catch (RuntimeException got) {
            if (got.getClass() != due) {
                report(what + " threw " + got + ", due is " + due.getSimpleName());
            }
        }
    }

    static void refused(String what, Runnable call) {
        throwsException(what, IllegalArgumentException.class, call);
    }

    /** The call throws, and nothing that can be found out about the object is another one behind it. */
    static void throwsAndChangesNothing(String what, Class<? extends RuntimeException> due,
            Supplier<LeaseQueue> maker, Consumer<LeaseQueue> call) {
        changesNothing(what, maker, x -> throwsException(what, due, () -> call.accept(x)));
    }

    static void refusedAndChangesNothing(String what, Supplier<LeaseQueue> maker, Consumer<LeaseQueue> call) {
        throwsAndChangesNothing(what, IllegalArgumentException.class, maker, call);
    }

    static void changesNothing(String what, Supplier<LeaseQueue> maker, Consumer<LeaseQueue> call) {
        sameEffect(what + " changes nothing: it", maker, call, x -> { });
    }

    /** Two new objects, alike but for one call each, cannot be told from one another. */
    static void sameEffect(String what, Supplier<LeaseQueue> maker, Consumer<LeaseQueue> one,
            Consumer<LeaseQueue> other) {
        LeaseQueue x = maker.get();
        LeaseQueue y = maker.get();
        one.accept(x);
        other.accept(y);
        String got = Samples.allOf(x);
        String due = Samples.allOf(y);
        made++;
        if (!got.equals(due)) {
            report(what + " left" + System.lineSeparator() + got + "    due is" + System.lineSeparator() + due);
        }
    }

    /** The last numbers within go through; the first ones outside, and the farthest, are refused and change nothing. */
    static void onlyWithin(String what, int least, int most, ObjIntConsumer<LeaseQueue> call) {
        for (int number : new int[] {least, most}) {
            made++;
            try {
                call.accept(Samples.busy(), number);
            } catch (RuntimeException e) {
                report(what + " " + number + " threw " + e);
            }
        }
        int[] outside = most == Integer.MAX_VALUE
                ? new int[] {least - 1, Integer.MIN_VALUE}
                : new int[] {least - 1, Integer.MIN_VALUE, most + 1, Integer.MAX_VALUE};
        for (int number : outside) {
            refusedAndChangesNothing(what + " " + number, Samples::busy, x -> call.accept(x, number));
        }
    }

    static void report(String line) {
        wrong++;
        if (wrong <= 50) {
            System.out.println(sentence.isEmpty() ? line : "'" + sentence + "': " + line);
        }
    }

    static boolean anyWrong() {
        return wrong > 0;
    }

    static void runAll(Class<?> tests) {
        runTests(tests);
        end();
    }

    /** Runs every test of a class: its static methods that are not private and have no parameters. */
    static void runTests(Class<?> tests) {
        Method[] methods = tests.getDeclaredMethods();
        Arrays.sort(methods, Comparator.comparing(Method::getName));
        int run = 0;
        for (Method method : methods) {
            int kind = method.getModifiers();
            if (Modifier.isStatic(kind) && !Modifier.isPrivate(kind) && method.getParameterCount() == 0) {
                runOne(method);
                run++;
            }
        }
        isTrue("there are tests in " + tests.getName(), run > 0);
    }

    private static void runOne(Method test) {
        sentence = test.getName();
        try {
            test.invoke(null);
        } catch (InvocationTargetException e) {
            report(test.getName() + " ended with " + e.getCause());
        } catch (IllegalAccessException e) {
            report(test.getName() + " cannot be run");
        }
    }

    static void end() {
        System.out.println(wrong == 0 ? made + " checks hold" : wrong + " of " + made + " checks fail");
        if (wrong != 0) {
            System.exit(1);
        }
    }
}
