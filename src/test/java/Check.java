/** Counts the calls whose answer is not the one that is due, and prints each with its line. */
final class Check {
    interface Call {
        Object answer();
    }

    static final String INDEX = "throws IndexOutOfBoundsException";
    static final String ARGUMENT = "throws IllegalArgumentException";
    static final String STATE = "throws IllegalStateException";

    private static int asked = 0;
    private static int wrong = 0;

    private Check() {
    }

    static void is(Object due, Call call) {
        compare(String.valueOf(due), answerOf(call));
    }

    /** That the call throws this and that nothing of what can be asked of x is another after it. */
    static void refused(String exception, Rowtricks x, Call call) {
        String before = Snapshot.of(x);
        compare(exception, answerOf(call));
        compare(before, Snapshot.of(x));
    }

    /** An answer as a text; an exception by the name of its very class, so that none of its kinds passes. */
    static String answerOf(Call call) {
        try {
            return String.valueOf(call.answer());
        } catch (RuntimeException e) {
            return "throws " + e.getClass().getSimpleName();
        }
    }

    static void compare(String due, String got) {
        asked++;
        if (!due.equals(got)) {
            wrong++;
            System.out.println(place() + ": answered " + got + ", due is " + due);
        }
    }

    static void end() {
        System.out.println(asked + " answers, " + wrong + " wrong");
        if (wrong != 0 || asked == 0) {
            System.exit(1);
        }
    }

    private static String place() {
        for (StackTraceElement e : new Throwable().getStackTrace()) {
            if (e.getClassName().endsWith("Test")) {
                return e.getClassName() + ":" + e.getLineNumber();
            }
        }
        return "?";
    }
}
