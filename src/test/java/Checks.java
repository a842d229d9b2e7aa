import java.util.Objects;

/** Counts the checks of one test and prints those that fail, with the sentence that they test. */
final class Checks {
    /** A call that may throw. */
    interface Call {
        Object answer();
    }

    private int made = 0;
    private int wrong = 0;
    private int sentences = 0;
    private String sentence = "";

    /** The sentence of the document that the checks from here on belong to. */
    void sentence(String text) {
        sentences++;
        sentence = "[" + text + "] ";
    }

    /** One test by itself: what stops it is one wrong answer, and the tests behind it still run. */
    void run(Runnable test) {
        sentence = "";
        try {
            test.run();
        } catch (RuntimeException e) {
            made++;
            wrong++;
            System.out.println(sentence + "stopped by " + e);
        }
    }

    void due(String what, Object want, Object got) {
        made++;
        if (!Objects.equals(want, got)) {
            wrong++;
            System.out.println(sentence + what + " answered " + got + ", due is " + want);
        }
    }

    /** The class must be the very one: an exception that the machine throws is another. */
    void dueThrow(String what, Class<? extends RuntimeException> want, Call call) {
        due(what, "throws." + want.getSimpleName(), answer(call));
    }

    /** Likewise, and all that can be asked of the game is as it was ahead of the call. */
    void dueRefused(String what, Class<? extends RuntimeException> want, BorrowedHats game,
            Call call) {
        String before = Games.asked(game);
        dueThrow(what, want, call);
        due("all that can be asked behind " + what, before, Games.asked(game));
    }

    static String answer(Call call) {
        try {
            return String.valueOf(call.answer());
        } catch (RuntimeException e) {
            return "throws." + e.getClass().getSimpleName();
        }
    }

    void end(String test) {
        String of = sentences > 0 ? " of " + sentences + " sentences" : "";
        System.out.println(test + ": " + made + " checks" + of + ", " + wrong + " wrong");
        if (wrong != 0 || made == 0) {
            System.exit(1);
        }
    }
}
