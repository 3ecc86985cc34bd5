/** Counts the answers that are not as due; what the tests share. */
final class Check {
    /** A call that answers with a number, or throws. */
    interface Call {
        long answer();
    }

    static final String INDEX = "IndexOutOfBoundsException";
    static final String ARGUMENT = "IllegalArgumentException";
    static final String STATE = "IllegalStateException";

    private static int wrong = 0;
    private static int seen = 0;

    private Check() {
    }

    static void same(String what, long due, long got) {
        seen++;
        if (due != got) {
            wrong++;
            System.out.println(what + " answered " + got + ", due is " + due);
        }
    }

    static void same(String what, boolean due, boolean got) {
        same(what, Boolean.toString(due), Boolean.toString(got));
    }

    static void same(String what, String due, String got) {
        seen++;
        if (!due.equals(got)) {
            wrong++;
            System.out.println(what + " answered " + got + ", due is " + due);
        }
    }

    static void holds(String what, boolean got) {
        seen++;
        if (!got) {
            wrong++;
            System.out.println(what + " does not hold");
        }
    }

    /** How many answers were wrong up to now. */
    static int wrongUpToNow() {
        return wrong;
    }

    /** The answer of a call as a text, or "throws." and the exception's own name. */
    static String outcome(Call call) {
        try {
            return Long.toString(call.answer());
        } catch (RuntimeException e) {
            return "throws." + e.getClass().getSimpleName();
        }
    }

    /** The call throws just this exception, and changes nothing that can be seen. */
    static void refuses(String what, String exception, AssignmentWorkbench x, Call call) {
        String before = Glimpse.of(x);
        same(what, "throws." + exception, outcome(call));
        same("the state after " + what, before, Glimpse.of(x));
    }

    /** Ends the test's machine: 1 if an answer was wrong. */
    static void end(String test) {
        System.out.println(test + ": " + seen + " answers, " + wrong + " of them wrong");
        if (wrong != 0) {
            System.exit(1);
        }
    }
}
