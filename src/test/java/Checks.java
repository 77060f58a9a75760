/** Counts the checks that fail and prints each of them. */
final class Checks {
    private static int made = 0;
    private static int wrong = 0;

    private Checks() {
    }

    static void same(String what, long due, long got) {
        made++;
        if (due != got) {
            report(what + " answered " + got + ", due is " + due);
        }
    }

    static void isTrue(String what, boolean got) {
        made++;
        if (!got) {
            report(what + " does not hold");
        }
    }

    static void isFalse(String what, boolean got) {
        isTrue("not " + what, !got);
    }

    /** The very class is due, since a caller may catch a class above it for something else. */
    static void throwsException(String what, Class<? extends RuntimeException> due, Runnable call) {
        made++;
        try {
            call.run();
            report(what + " threw nothing, due is " + due.getSimpleName());
        } catch (RuntimeException got) {
            if (got.getClass() != due) {
                report(what + " threw " + got + ", due is " + due.getSimpleName());
            }
        }
    }

    static void refused(String what, Runnable call) {
        throwsException(what, IllegalArgumentException.class, call);
    }

    static void report(String line) {
        wrong++;
        if (wrong <= 50) {
            System.out.println(line);
        }
    }

    static boolean anyWrong() {
        return wrong > 0;
    }

    static void end() {
        System.out.println(wrong == 0 ? made + " checks hold" : wrong + " of " + made + " checks fail");
        if (wrong != 0) {
            System.exit(1);
        }
    }
}
