/** Counts what is not as due, and ends a test by it. */
final class Check {
    private static int looked = 0;
    private static int wrong = 0;

    private Check() {}

    interface Call {
        long answer();
    }

    static void same(String what, long got, long due) {
        looked++;
        if (got != due) {
            fault(what + " answered " + got + ", due is " + due);
        }
    }

    static void holds(String what, boolean true_) {
        looked++;
        if (!true_) {
            fault(what);
        }
    }

    static void refuses(String what, Class<? extends RuntimeException> due, Call call) {
        looked++;
        try {
            long got = call.answer();
            fault(what + " answered " + got + ", due is " + due.getSimpleName());
        } catch (RuntimeException e) {
            if (e.getClass() != due) {
                fault(what + " threw " + e.getClass().getSimpleName() + ", due is " + due.getSimpleName());
            }
        }
    }

    static void refusesIndex(String what, Call call) {
        refuses(what, IndexOutOfBoundsException.class, call);
    }

    static void refusesArgument(String what, Call call) {
        refuses(what, IllegalArgumentException.class, call);
    }

    static void refusesRoom(String what, Call call) {
        refuses(what, UnsupportedOperationException.class, call);
    }

    private static void fault(String text) {
        wrong++;
        if (wrong <= 40) {
            System.out.println("  " + text);
        }
    }

    static void end() {
        System.out.println("  " + looked + " looked at, " + wrong + " wrong");
        if (wrong != 0 || looked == 0) {
            System.exit(1);
        }
    }
}
