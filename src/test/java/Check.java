import java.util.Objects;

/** Counts the answers that are not as due. A test ends with Check.end(). */
final class Check {
    interface Call {
        Object answer();
    }

    private static int checked = 0;
    private static int wrong = 0;
    private static String test = "";

    private Check() {}

    /** The name stands before what is told of the answers that follow. */
    static void begin(String name) {
        test = name + ": ";
    }

    static void is(String what, Object due, Object got) {
        checked++;
        if (!Objects.equals(due, got)) {
            wrong++;
            System.out.println(test + what + ": answered " + got + ", due is " + due);
        }
    }

    /** The very class counts: what the Java machine throws by itself is of another class. */
    static void fails(String what, Class<? extends RuntimeException> due, Call call) {
        Object got;
        try {
            got = call.answer();
        } catch (RuntimeException e) {
            got = e.getClass();
        }
        is(what, due, got);
    }

    static void noIndex(String what, Call call) {
        fails(what, IndexOutOfBoundsException.class, call);
    }

    static void noArgument(String what, Call call) {
        fails(what, IllegalArgumentException.class, call);
    }

    static void noState(String what, Call call) {
        fails(what, IllegalStateException.class, call);
    }

    static void noElement(String what, Call call) {
        fails(what, java.util.NoSuchElementException.class, call);
    }

    static void end() {
        System.out.println(checked + " answers, " + wrong + " not as due");
        if (wrong != 0 || checked == 0) {
            System.exit(1);
        }
    }
}
