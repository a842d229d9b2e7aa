import java.util.Objects;

/** Counts the checks of one test and prints those that fail. */
final class Checks {
    /** A call that is expected to throw. */
    interface Call {
        Object answer();
    }

    private int made = 0;
    private int wrong = 0;

    void due(String what, Object want, Object got) {
        made++;
        if (!Objects.equals(want, got)) {
            wrong++;
            System.out.println(what + " answered " + got + ", due is " + want);
        }
    }

    /** The class must be the very one: an exception that the machine throws is another. */
    void dueThrow(String what, Class<? extends RuntimeException> want, Call call) {
        due(what + " throws", want.getSimpleName(), thrownBy(call));
    }

    private static String thrownBy(Call call) {
        try {
            call.answer();
            return "nothing";
        } catch (RuntimeException e) {
            return e.getClass().getSimpleName();
        }
    }

    void end(String test) {
        System.out.println(test + ": " + made + " checks, " + wrong + " wrong");
        if (wrong != 0 || made == 0) {
            System.exit(1);
        }
    }
}
