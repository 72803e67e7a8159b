/** What the tests have in common: calls are compared with what is due, and the wrong ones printed and counted. */
final class Checks {
    interface Call {
        long answer();
    }

    private static int calls = 0;
    private static int wrong = 0;

    private Checks() {
    }

    static void due(String what, long want, long got) {
        calls++;
        if (got != want) {
            tell(what + " answered " + got + ", due is " + want);
        }
    }

    static void due(String what, boolean want, boolean got) {
        due(what, want ? 1 : 0, got ? 1 : 0);
    }

    static void holds(String what, boolean is) {
        calls++;
        if (!is) {
            tell("does not hold: " + what);
        }
    }

    static void place(String what, Call call) {
        dueThrow(what, IndexOutOfBoundsException.class, call);
    }

    static void argument(String what, Call call) {
        dueThrow(what, IllegalArgumentException.class, call);
    }

    static void state(String what, Call call) {
        dueThrow(what, IllegalStateException.class, call);
    }

    /** A number for an exception that the document names; any other one, as those of the Java machine, is thrown on. */
    static long refusal(RuntimeException e) {
        Class<?> thrown = e.getClass();
        if (thrown == IndexOutOfBoundsException.class) {
            return -7001;
        }
        if (thrown == IllegalArgumentException.class) {
            return -7002;
        }
        if (thrown == IllegalStateException.class) {
            return -7003;
        }
        throw e;
    }

    static void tell(String what) {
        wrong++;
        System.out.println(what);
    }

    static void end(String name) {
        System.out.println(name + ": " + calls + " checks, " + wrong + " wrong");
        if (wrong != 0) {
            System.exit(1);
        }
    }

    static void dueThrow(String what, Class<?> want, Call call) {
        calls++;
        try {
            long got = call.answer();
            tell(what + " answered " + got + ", due is " + want.getSimpleName());
        } catch (RuntimeException e) {
            if (e.getClass() != want) {
                tell(what + " threw " + e + ", due is " + want.getSimpleName());
            }
        }
    }
}
