import java.util.Objects;

/** Counts and prints what is not as due. */
final class Checks {
    interface Call {
        Object run();
    }

    private final String test;
    private int made = 0;
    private int wrong = 0;

    Checks(String test) {
        this.test = test;
    }

    /** The answer that is due, or the class of the exception. */
    void same(String what, Object due, Call call) {
        made++;
        Object got = answerOf(call);
        if (!Objects.equals(due, got)) {
            wrong(what + " answered " + got + ", due is " + due);
        }
    }

    void wrong(String what) {
        wrong++;
        System.out.println(test + ": " + what);
    }

    /** A test that looked at nothing has not passed. */
    boolean passed() {
        return made != 0 && wrong == 0;
    }

    void end() {
        System.out.println(test + (passed() ? ": all is as due" : ": not all is as due"));
        if (!passed()) {
            System.exit(1);
        }
    }

    /** What a call answers, or the class of what it throws. */
    static Object answerOf(Call call) {
        try {
            return call.run();
        } catch (RuntimeException e) {
            return e.getClass();
        }
    }
}
