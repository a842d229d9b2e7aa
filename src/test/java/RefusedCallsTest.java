import java.util.List;

/**
 * Every call that can be refused, in games of every kind, with arguments on both sides of every
 * edge: it throws just what the document names, what is named first going first, and a call that
 * throws changes nothing, neither what can be asked nor what can be done later.
 */
public final class RefusedCallsTest {
    private static final String INDEX = "throws.IndexOutOfBoundsException";
    private static final String ARGUMENT = "throws.IllegalArgumentException";
    private static final String STATE = "throws.IllegalStateException";
    private static final String NOTHING = "";

    private static final int KINDS = 7;
    private static final int[] MANY = {Integer.MIN_VALUE, -1, 0, 1, 2, 3, 4, 5, 6,
        Integer.MAX_VALUE};
    private static final int[] COLOURS = {Integer.MIN_VALUE, -1, 0, 1, 2, 3, Integer.MAX_VALUE};

    private static final Checks CHECKS = new Checks();

    private interface Asked {
        Object answer(BorrowedHats game, int[] arguments);
    }

    /** Which exception a call has to throw, its players and colours being such that there are. */
    private interface Rule {
        String thrown(BorrowedHats game, boolean isUnderWay, int[] arguments);
    }

    /** The arguments: p stands for a player, c for a colour, m for how many. */
    private record Tried(String name, String arguments, Asked asked, Rule rule) {
    }

    private static final Rule NO_RULE = (g, underWay, a) -> NOTHING;
    private static final Rule NOT_THE_SAME = (g, underWay, a) -> a[0] == a[1] ? ARGUMENT : NOTHING;
    private static final Rule SOME_PLAYER = (g, underWay, a) -> g.players() == 0 ? STATE : NOTHING;
    private static final Rule JOINS = (g, underWay, a) ->
            g.players() == 5 || underWay ? STATE : NOTHING;
    private static final Rule AT_LEAST = (g, underWay, a) ->
            a[1] < 0 || a[1] > 5 ? ARGUMENT : g.hatsOf(a[0]) < a[1] ? STATE : NOTHING;
    private static final Rule AT_MOST = (g, underWay, a) ->
            a[1] < 0 || a[1] > 5 ? ARGUMENT : g.hatsOf(a[0]) > a[1] ? STATE : NOTHING;

    private static final List<Tried> CHANGES = List.of(
            new Tried("addPlayer", "c", (g, a) -> g.addPlayer(a[0]), JOINS),
            new Tried("turnAway", "pp", (g, a) -> g.turnAway(a[0], a[1]), NOT_THE_SAME),
            new Tried("borrow", "pp", (g, a) -> g.borrow(a[0], a[1]), NOT_THE_SAME),
            new Tried("takeTurn", "", (g, a) -> g.takeTurn(), SOME_PLAYER),
            new Tried("sayAtLeast", "cm", (g, a) -> g.sayAtLeast(a[0], a[1]), AT_LEAST),
            new Tried("sayAtMost", "cm", (g, a) -> g.sayAtMost(a[0], a[1]), AT_MOST));

    private static final List<Tried> QUESTIONS = List.of(
            new Tried("hatOf", "p", (g, a) -> g.hatOf(a[0]), NO_RULE),
            new Tried("sees", "pp", (g, a) -> g.sees(a[0], a[1]), NO_RULE),
            new Tried("hatsOf", "c", (g, a) -> g.hatsOf(a[0]), NO_RULE),
            new Tried("openWaysWith", "pc", (g, a) -> g.openWaysWith(a[0], a[1]), NO_RULE),
            new Tried("isKnownToAll", "p", (g, a) -> g.isKnownToAll(a[0]), NO_RULE),
            new Tried("possibleWays", "p", (g, a) -> g.possibleWays(a[0]), NO_RULE),
            new Tried("holdsPossible", "ppc", (g, a) -> g.holdsPossible(a[0], a[1], a[2]),
                    NO_RULE),
            new Tried("isCertain", "p", (g, a) -> g.isCertain(a[0]), NO_RULE),
            new Tried("knowsHatOf", "pp", (g, a) -> g.knowsHatOf(a[0], a[1]), NO_RULE),
            new Tried("knowsCertain", "pp", (g, a) -> g.knowsCertain(a[0], a[1]), NO_RULE),
            new Tried("openAfterTurn", "", (g, a) -> g.openAfterTurn(), SOME_PLAYER),
            new Tried("turnsUntilCertain", "p", (g, a) -> g.turnsUntilCertain(a[0]), NO_RULE),
            new Tried("certainIfTold", "p", (g, a) -> g.certainIfTold(a[0]), NO_RULE));

    // ---- games of every kind

    /** Kinds: new, looking away, said, turns taken, borrowed, all of it, and begun again. */
    private static BorrowedHats game(int players, int kind) {
        BorrowedHats game = Games.gameOf(players);
        if ((kind == 1 || kind >= 5) && players > 1) {
            game.turnAway(0, 1);
            game.turnAway(players - 1, 0);
        }
        if (kind == 2 || kind >= 5) {
            game.sayAtLeast(1, Math.min(1, players));
            game.sayAtMost(2, 1);
        }
        for (int turn = 0; (kind == 3 || kind >= 5) && players > 0 && turn <= players; turn++) {
            game.takeTurn();
        }
        if ((kind == 4 || kind >= 5) && players > 1) {
            game.borrow(players - 1, 0);
        }
        if (kind == 6) {
            game.begin();
        }
        return game;
    }

    private static boolean isUnderWay(int players, int kind) {
        return switch (kind) {
            case 2, 5 -> true;
            case 3 -> players > 0;
            case 4 -> players > 1;
            default -> false;
        };
    }

    // ---- arguments on both sides of every edge

    private static int[] values(char of, int players) {
        return switch (of) {
            case 'c' -> COLOURS;
            case 'm' -> MANY;
            default -> playersAround(players);
        };
    }

    private static int[] playersAround(int players) {
        int[] values = new int[players + 5];
        for (int p = -1; p <= players + 1; p++) {
            values[p + 1] = p;
        }
        values[players + 3] = Integer.MIN_VALUE;
        values[players + 4] = Integer.MAX_VALUE;
        return values;
    }

    /** Some numbers name one choice of the arguments each: a digit for each argument. */
    private static int[] chosen(Tried tried, int players, int number) {
        int[] arguments = new int[tried.arguments().length()];
        int rest = number;
        for (int i = 0; i < arguments.length; i++) {
            int[] values = values(tried.arguments().charAt(i), players);
            arguments[i] = values[rest % values.length];
            rest = rest / values.length;
        }
        return arguments;
    }

    private static int choices(Tried tried, int players) {
        int choices = 1;
        for (char of : tried.arguments().toCharArray()) {
            choices = choices * values(of, players).length;
        }
        return choices;
    }

    private static String dueAnswer(Tried tried, BorrowedHats game, boolean underWay, int[] a) {
        for (int i = 0; i < a.length; i++) {
            char of = tried.arguments().charAt(i);
            int limit = of == 'c' ? 3 : game.players();
            if (of != 'm' && (a[i] < 0 || a[i] >= limit)) {
                return INDEX;
            }
        }
        return tried.rule().thrown(game, underWay, a);
    }

    // ---- the test

    private static String thrown(Tried tried, BorrowedHats game, int[] arguments) {
        String answer = Checks.answer(() -> tried.asked().answer(game, arguments));
        return answer.startsWith("throws.") ? answer : NOTHING;
    }

    private static String told(Tried tried, int players, int kind, int[] arguments) {
        return tried.name() + java.util.Arrays.toString(arguments) + ", players " + players
                + ", kind " + kind;
    }

    /** Calls that must be refused go to one game; the others to a new one each. */
    private static void tryChange(Tried tried, int players, int kind) {
        boolean underWay = isUnderWay(players, kind);
        BorrowedHats game = game(players, kind);
        String before = Games.asked(game);
        for (int number = 0; number < choices(tried, players); number++) {
            int[] arguments = chosen(tried, players, number);
            String due = dueAnswer(tried, game, underWay, arguments);
            BorrowedHats used = due.equals(NOTHING) ? game(players, kind) : game;
            String call = told(tried, players, kind, arguments);
            CHECKS.due(call + " throws", due, thrown(tried, used, arguments));
            CHECKS.due("asked behind " + call, before, Games.asked(game));
        }
        CHECKS.due("the future behind refused calls of " + told(tried, players, kind, null),
                Games.future(game(players, kind)), Games.future(game));
    }

    private static void tryQuestion(Tried tried, int players, int kind) {
        BorrowedHats game = game(players, kind);
        String before = Games.asked(game);
        for (int number = 0; number < choices(tried, players); number++) {
            int[] arguments = chosen(tried, players, number);
            CHECKS.due(told(tried, players, kind, arguments) + " throws",
                    dueAnswer(tried, game, false, arguments), thrown(tried, game, arguments));
        }
        CHECKS.due("asked behind " + tried.name(), before, Games.asked(game));
        CHECKS.due("the future behind " + told(tried, players, kind, null),
                Games.future(game(players, kind)), Games.future(game));
    }

    private static void tryInEveryGame(Tried tried, boolean changes) {
        CHECKS.sentence(tried.name() + ": A method that throws an exception changes nothing."
                + " If several exceptions apply, the one that is named first is thrown");
        for (int players = 0; players <= 5; players++) {
            for (int kind = 0; kind < KINDS; kind++) {
                if (changes) {
                    tryChange(tried, players, kind);
                } else {
                    tryQuestion(tried, players, kind);
                }
            }
        }
    }

    public static void main(String[] args) {
        for (Tried tried : CHANGES) {
            CHECKS.run(() -> tryInEveryGame(tried, true));
        }
        for (Tried tried : QUESTIONS) {
            CHECKS.run(() -> tryInEveryGame(tried, false));
        }
        CHECKS.end("RefusedCallsTest");
    }
}
