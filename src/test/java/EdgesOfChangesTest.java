/** The edges that the promises 1 to 8 name (a new object, and the calls that change it). */
public final class EdgesOfChangesTest {
    private static final Class<IndexOutOfBoundsException> INDEX = IndexOutOfBoundsException.class;
    private static final Class<IllegalArgumentException> ARGUMENT = IllegalArgumentException.class;
    private static final Class<IllegalStateException> STATE = IllegalStateException.class;

    private static final int[] NO_COLOURS = {-1, 3, Integer.MIN_VALUE, Integer.MAX_VALUE};
    private static final int[] NO_NUMBERS = {-1, 6, Integer.MIN_VALUE, Integer.MAX_VALUE};
    private static final int[] WAYS = {1, 3, 9, 27, 81, 243};

    private static final Checks CHECKS = new Checks();

    private static void sentence(String text) {
        CHECKS.sentence(text);
    }

    private static void due(String what, Object want, Object got) {
        CHECKS.due(what, want, got);
    }

    private static void dueRefused(String what, Class<? extends RuntimeException> want,
            BorrowedHats game, Checks.Call call) {
        CHECKS.dueRefused(what, want, game, call);
    }

    private static BorrowedHats game(int... colours) {
        return Games.game(colours);
    }

    // ---- Promise 1

    private static void promise1() {
        sentence("1: Creates a game without players");
        due("players", 0, game().players());
        due("turnsTaken", 0, game().turnsTaken());
        due("silentTurns", 0, game().silentTurns());
        due("playerInTurn", -1, game().playerInTurn());
        due("openWays", 1, game().openWays());
        due("certainPlayers", 0, game().certainPlayers());
        due("turnsUntilAllCertain", 0, game().turnsUntilAllCertain());
        due("bestToName", -1, game().bestToName());
        due("meanPossible", 0.0, game().meanPossible());
        CHECKS.dueThrow("hatOf(0)", INDEX, () -> game().hatOf(0));
        due("the first player", 0, game().addPlayer(1));
    }

    // ---- Promise 2

    private static void promise2Number() {
        sentence("2: Returns the number of this one");
        BorrowedHats game = game();
        for (int number = 0; number < 5; number++) {
            due("the number", number, game.addPlayer(2));
        }
    }

    private static void promise2Colour() {
        sentence("2: Throws IndexOutOfBoundsException if colour is not 0 to 2");
        for (int n = 0; n <= 4; n++) {
            BorrowedHats game = Games.gameOf(n);
            for (int colour : NO_COLOURS) {
                dueRefused("colour " + colour + " behind " + n, INDEX, game,
                        () -> game.addPlayer(colour));
            }
            for (int colour = 0; colour <= 2; colour++) {
                due("colour " + colour, n, Games.gameOf(n).addPlayer(colour));
            }
        }
    }

    private static void promise2Five() {
        sentence("2: Throws IllegalStateException if there are 5");
        due("the fifth", 4, Games.gameOf(4).addPlayer(1));
        BorrowedHats five = Games.gameOf(5);
        dueRefused("the sixth", STATE, five, () -> five.addPlayer(1));
        five.begin();
        dueRefused("the sixth in another game", STATE, five, () -> five.addPlayer(1));
    }

    private static void promise2Turn() {
        sentence("2: Throws IllegalStateException if a turn was taken in this game");
        BorrowedHats silent = game(0);
        silent.takeTurn();
        dueRefused("behind a silent turn", STATE, silent, () -> silent.addPlayer(1));
        BorrowedHats told = game(2);
        told.sayAtLeast(2, 1);
        told.begin();
        due("a turn that is only thought of", 3, told.openAfterTurn());
        due("a turn that is only thought of", -1, told.turnsUntilCertain(0));
        due("no turn was taken", 1, told.addPlayer(1));
        told.takeTurn();
        dueRefused("behind a turn of two", STATE, told, () -> told.addPlayer(1));
        told.begin();
        due("in another game", 2, told.addPlayer(1));
    }

    private static void promise2Said() {
        sentence("2: Throws IllegalStateException if something was said in this game");
        BorrowedHats atLeast = game(0);
        atLeast.sayAtLeast(2, 0);
        dueRefused("behind at least 0", STATE, atLeast, () -> atLeast.addPlayer(1));
        atLeast.begin();
        due("in another game", 1, atLeast.addPlayer(1));
        BorrowedHats atMost = game(0);
        atMost.sayAtMost(0, 5);
        dueRefused("behind at most 5", STATE, atMost, () -> atMost.addPlayer(1));
        atMost.begin();
        due("in another game", 1, atMost.addPlayer(1));
        BorrowedHats nobody = game();
        nobody.sayAtMost(1, 0);
        dueRefused("said without players", STATE, nobody, () -> nobody.addPlayer(1));
    }

    private static void promise2Borrowed() {
        sentence("2: Throws IllegalStateException if a hat was borrowed in this game");
        BorrowedHats game = game(0, 1);
        game.borrow(0, 1);
        dueRefused("behind a borrowing", STATE, game, () -> game.addPlayer(1));
        game.begin();
        due("in another game", 2, game.addPlayer(1));
        game.borrow(2, 1);
        game.borrow(2, 1);
        dueRefused("behind a borrowing there and back", STATE, game, () -> game.addPlayer(1));
        BorrowedHats away = game(0, 1);
        away.turnAway(0, 1);
        due("looking away is none", 2, away.addPlayer(1));
    }

    private static void promise2Order() {
        sentence("2: Of several exceptions the one that is named first is thrown");
        BorrowedHats five = Games.gameOf(5);
        BorrowedHats underWay = game(1);
        underWay.takeTurn();
        for (int colour : NO_COLOURS) {
            dueRefused("a sixth of " + colour, INDEX, five, () -> five.addPlayer(colour));
            dueRefused("in a game " + colour, INDEX, underWay,
                    () -> underWay.addPlayer(colour));
        }
    }

    // ---- Promises 3 and 4

    private interface OfTwo {
        Object answer(BorrowedHats game, int player, int other);
    }

    private static void dueOnlyForPlayers(OfTwo call) {
        for (int n = 0; n <= 5; n++) {
            BorrowedHats game = Games.gameOf(n);
            int last = n - 1;
            for (int none : new int[] {-1, n, n + 1, Integer.MIN_VALUE, Integer.MAX_VALUE}) {
                String of = none + " of " + n;
                dueRefused("first " + of, INDEX, game, () -> call.answer(game, none, 0));
                dueRefused("second " + of, INDEX, game, () -> call.answer(game, 0, none));
                dueRefused("last and " + of, INDEX, game, () -> call.answer(game, last, none));
            }
        }
    }

    private static void dueNotOfTheSame(OfTwo call) {
        for (int n = 1; n <= 5; n++) {
            BorrowedHats game = Games.gameOf(n);
            for (int p = 0; p < n; p++) {
                int same = p;
                dueRefused("both are " + p + " of " + n, ARGUMENT, game,
                        () -> call.answer(game, same, same));
            }
        }
    }

    private static void dueFirstNoPlayer(OfTwo call) {
        for (int n = 0; n <= 5; n++) {
            BorrowedHats game = Games.gameOf(n);
            for (int none : new int[] {-1, n, Integer.MIN_VALUE, Integer.MAX_VALUE}) {
                dueRefused("both are " + none + " of " + n, INDEX, game,
                        () -> call.answer(game, none, none));
            }
        }
    }

    private static void promise3Returns() {
        sentence("3: Returns whether the hat of the other one is seen then");
        BorrowedHats game = Games.gameOf(5);
        for (int p = 0; p < 5; p++) {
            for (int q = 0; q < 5; q++) {
                if (p != q) {
                    due(p + " away from " + q, false, game.turnAway(p, q));
                    due(p + " sees " + q, false, game.sees(p, q));
                    due(p + " there again", true, game.turnAway(p, q));
                    due(p + " sees " + q, true, game.sees(p, q));
                    due(p + " away once more", false, game.turnAway(p, q));
                }
            }
        }
        due("all look away", 243.0, game.meanPossible());
    }

    private static void promise3NoPlayer() {
        sentence("3: Throws IndexOutOfBoundsException if there is no such player");
        dueOnlyForPlayers((game, p, q) -> game.turnAway(p, q));
        due("the first and the last of two", false, game(0, 1).turnAway(0, 1));
        due("the last and the first of five", false, Games.gameOf(5).turnAway(4, 0));
    }

    private static void promise3Same() {
        sentence("3: Throws IllegalArgumentException if both are the same");
        dueNotOfTheSame((game, p, q) -> game.turnAway(p, q));
    }

    private static void promise3Order() {
        sentence("3: Of several exceptions the one that is named first is thrown");
        dueFirstNoPlayer((game, p, q) -> game.turnAway(p, q));
    }

    private static void promise4Returns() {
        sentence("4: Returns the colour that the first one has then");
        for (int p = 0; p < 5; p++) {
            for (int q = 0; q < 5; q++) {
                if (p != q) {
                    BorrowedHats game = Games.gameOf(5);
                    due(p + " borrows of " + q, Games.COLOURS[q], game.borrow(p, q));
                    due("hat of " + p, Games.COLOURS[q], game.hatOf(p));
                    due("hat of " + q, Games.COLOURS[p], game.hatOf(q));
                    due("turns", 0, game.turnsTaken());
                }
            }
        }
        due("of equal hats", 2, game(2, 2).borrow(1, 0));
    }

    private static void promise4NoPlayer() {
        sentence("4: Throws IndexOutOfBoundsException if there is no such player");
        dueOnlyForPlayers((game, p, q) -> game.borrow(p, q));
        due("the first and the last of two", 1, game(0, 1).borrow(0, 1));
        due("the last and the first of five", 1, Games.gameOf(5).borrow(4, 0));
    }

    private static void promise4Same() {
        sentence("4: Throws IllegalArgumentException if both are the same");
        dueNotOfTheSame((game, p, q) -> game.borrow(p, q));
    }

    private static void promise4Order() {
        sentence("4: Of several exceptions the one that is named first is thrown");
        dueFirstNoPlayer((game, p, q) -> game.borrow(p, q));
    }

    // ---- Promise 5

    private static void promise5Returns() {
        sentence("5: Returns the colour that is told; -1 for silence");
        for (int colour = 0; colour <= 2; colour++) {
            BorrowedHats game = game(colour, 0, 0, 0, colour);
            due("silence", -1, game.takeTurn());
            for (int other = 0; other <= 2; other++) {
                game.sayAtLeast(other, game.hatsOf(other));
            }
            for (int told : new int[] {0, 0, 0, colour, colour, 0}) {
                due("the colour of " + game.playerInTurn(), told, game.takeTurn());
            }
        }
    }

    private static void promise5Nobody() {
        sentence("5: Throws IllegalStateException if there are no players");
        BorrowedHats nobody = game();
        dueRefused("without players", STATE, nobody, nobody::takeTurn);
        nobody.begin();
        dueRefused("without players in another game", STATE, nobody, nobody::takeTurn);
        due("no turn was taken", 0, nobody.addPlayer(1));
        due("with one player", -1, nobody.takeTurn());
    }

    // ---- Promises 6 and 7

    private interface Said {
        int ways(BorrowedHats game, int colour, int many);
    }

    private static final Said AT_LEAST = (game, colour, many) -> game.sayAtLeast(colour, many);
    private static final Said AT_MOST = (game, colour, many) -> game.sayAtMost(colour, many);

    private static void dueOnlyOfColours(Said said, int many) {
        for (int n = 0; n <= 5; n++) {
            BorrowedHats game = Games.gameOf(n);
            for (int colour : NO_COLOURS) {
                dueRefused("colour " + colour, INDEX, game,
                        () -> said.ways(game, colour, many));
            }
            for (int colour = 0; colour <= 2; colour++) {
                due("colour " + colour, WAYS[n], said.ways(Games.gameOf(n), colour, many));
            }
        }
    }

    private static void dueOnlyOfNumbers(Said said) {
        for (int n = 0; n <= 5; n++) {
            BorrowedHats game = Games.gameOf(n);
            for (int many : NO_NUMBERS) {
                dueRefused("many " + many, ARGUMENT, game, () -> said.ways(game, 2, many));
            }
        }
    }

    private static void dueFirstNoColour(Said said) {
        BorrowedHats game = game(1, 0, 1);
        for (int colour : NO_COLOURS) {
            for (int many = -1; many <= 6; many++) {
                int number = many;
                dueRefused("colour " + colour + ", many " + many, INDEX, game,
                        () -> said.ways(game, colour, number));
            }
        }
    }

    private static void promise6Returns() {
        sentence("6: Returns how many ways are open then");
        BorrowedHats game = game(1, 1, 1, 1, 1);
        int[] open = {243, 211, 131, 51, 11, 1};
        for (int many = 0; many <= 5; many++) {
            due("at least " + many, open[many], game.sayAtLeast(1, many));
            due("openWays", open[many], game.openWays());
        }
        due("what is known already", 1, game.sayAtLeast(1, 0));
        due("without players", 1, game().sayAtLeast(1, 0));
    }

    private static void promise6Colour() {
        sentence("6: Throws IndexOutOfBoundsException if colour is not 0 to 2");
        dueOnlyOfColours(AT_LEAST, 0);
    }

    private static void promise6Many() {
        sentence("6: Throws IllegalArgumentException if many is not 0 to 5");
        dueOnlyOfNumbers(AT_LEAST);
        due("0", 3, game(1).sayAtLeast(2, 0));
        due("5", 1, game(2, 2, 2, 2, 2).sayAtLeast(2, 5));
        CHECKS.dueThrow("5 of 4 is a number, but not true", STATE,
                () -> game(2, 2, 2, 2).sayAtLeast(2, 5));
    }

    private static void promise6Untrue() {
        sentence("6: Throws IllegalStateException if it is not true");
        for (int n = 0; n <= 5; n++) {
            BorrowedHats game = Games.gameOf(n);
            for (int c = 0; c <= 2; c++) {
                int colour = c;
                int more = game.hatsOf(colour) + 1;
                if (more <= 5) {
                    dueRefused("one more of " + n, STATE, game,
                            () -> game.sayAtLeast(colour, more));
                    dueRefused("five of " + n, STATE, game, () -> game.sayAtLeast(colour, 5));
                }
                due("just as many of " + n, true,
                        Games.gameOf(n).sayAtLeast(colour, more - 1) > 0);
            }
        }
    }

    private static void promise6Order() {
        sentence("6: Of several exceptions the one that is named first is thrown");
        dueFirstNoColour(AT_LEAST);
        BorrowedHats game = game(1, 0, 1);
        dueRefused("6 is no number, and not true", ARGUMENT, game, () -> game.sayAtLeast(1, 6));
        dueRefused("4 is a number, but not true", STATE, game, () -> game.sayAtLeast(1, 4));
    }

    private static void promise7Returns() {
        sentence("7: Returns how many ways are open then");
        BorrowedHats game = game(1, 1, 1, 1, 1);
        int[] open = {32, 112, 192, 232, 242, 243};
        for (int many = 5; many >= 0; many--) {
            due("at most " + many, open[many], game.sayAtMost(2, many));
            due("openWays", open[many], game.openWays());
        }
        due("what is known already", 32, game.sayAtMost(2, 5));
        due("another colour", 1, game.sayAtMost(0, 0));
        due("without players", 1, game().sayAtMost(1, 0));
    }

    private static void promise7Colour() {
        sentence("7: Throws IndexOutOfBoundsException if colour is not 0 to 2");
        dueOnlyOfColours(AT_MOST, 5);
    }

    private static void promise7Many() {
        sentence("7: Throws IllegalArgumentException if many is not 0 to 5");
        dueOnlyOfNumbers(AT_MOST);
        due("0", 2, game(1).sayAtMost(2, 0));
        due("5", 243, game(2, 2, 2, 2, 2).sayAtMost(2, 5));
        due("5 of one", 3, game(1).sayAtMost(1, 5));
        due("5 of nobody", 1, game().sayAtMost(1, 5));
    }

    private static void promise7Untrue() {
        sentence("7: Throws IllegalStateException if it is not true");
        for (int n = 0; n <= 5; n++) {
            BorrowedHats game = Games.gameOf(n);
            for (int c = 0; c <= 2; c++) {
                int colour = c;
                int less = game.hatsOf(colour) - 1;
                if (less >= 0) {
                    dueRefused("one less of " + n, STATE, game,
                            () -> game.sayAtMost(colour, less));
                    dueRefused("none of " + n, STATE, game, () -> game.sayAtMost(colour, 0));
                }
                due("just as many of " + n, true,
                        Games.gameOf(n).sayAtMost(colour, less + 1) > 0);
            }
        }
    }

    private static void promise7Order() {
        sentence("7: Of several exceptions the one that is named first is thrown");
        dueFirstNoColour(AT_MOST);
        BorrowedHats game = game(1, 0, 1);
        dueRefused("-1 is no number, and not true", ARGUMENT, game, () -> game.sayAtMost(1, -1));
        dueRefused("1 is a number, but not true", STATE, game, () -> game.sayAtMost(1, 1));
    }

    // ---- Promise 8

    /** A game in which all was done that begin() has to undo, or to leave. */
    private static BorrowedHats worn(int players) {
        BorrowedHats game = Games.gameOf(players);
        game.sayAtLeast(1, 1);
        for (int turn = 0; turn < players + 1; turn++) {
            game.takeTurn();
        }
        if (players > 1) {
            game.turnAway(0, players - 1);
            game.borrow(0, 1);
        }
        return game;
    }

    private static void promise8AllOpen() {
        sentence("8: all ways are open; returns how many ways are open then");
        due("without players", 1, game().begin());
        for (int n = 1; n <= 5; n++) {
            BorrowedHats game = worn(n);
            due("some are ruled out", true, game.openWays() < WAYS[n]);
            due("begin of " + n, WAYS[n], game.begin());
            due("openWays", WAYS[n], game.openWays());
            for (int colour = 0; colour <= 2; colour++) {
                due("with each colour", WAYS[n - 1], game.openWaysWith(n - 1, colour));
            }
        }
    }

    private static void promise8Turn() {
        sentence("8: the turn is that of the player 0");
        for (int n = 1; n <= 5; n++) {
            BorrowedHats game = worn(n);
            game.begin();
            due("in turn", 0, game.playerInTurn());
            due("turns of another game", "0 0", game.turnsTaken() + " " + game.silentTurns());
            game.sayAtLeast(game.hatOf(0), game.hatsOf(game.hatOf(0)));
            game.takeTurn();
            due("the next", 1 % n, game.playerInTurn());
        }
        BorrowedHats nobody = game();
        nobody.begin();
        due("without players", -1, nobody.playerInTurn());
    }

    private static void promise8SamePlayers() {
        sentence("8: Begins another game of the same players with the same hats");
        BorrowedHats game = worn(5);
        game.begin();
        due("players", 5, game.players());
        due("hats, two of which are exchanged", "0 1 1 2 0", game.hatOf(0) + " " + game.hatOf(1)
                + " " + game.hatOf(2) + " " + game.hatOf(3) + " " + game.hatOf(4));
        BorrowedHats two = worn(2);
        two.begin();
        due("a new one joins them", 2, two.addPlayer(2));
        due("hats", "0 1 2", two.hatOf(0) + " " + two.hatOf(1) + " " + two.hatOf(2));
        due("ways", 27, two.openWays());
    }

    private static void promise8LooksAway() {
        sentence("8: who looks away from whom stays so");
        BorrowedHats game = worn(5);
        game.begin();
        for (int p = 0; p < 5; p++) {
            for (int q = 0; q < 5; q++) {
                due(p + " sees " + q, p != q && !(p == 0 && q == 4), game.sees(p, q));
            }
        }
        due("looks there again", true, game.turnAway(0, 4));
    }

    public static void main(String[] args) {
        CHECKS.run(EdgesOfChangesTest::promise1);
        CHECKS.run(EdgesOfChangesTest::promise2Number);
        CHECKS.run(EdgesOfChangesTest::promise2Colour);
        CHECKS.run(EdgesOfChangesTest::promise2Five);
        CHECKS.run(EdgesOfChangesTest::promise2Turn);
        CHECKS.run(EdgesOfChangesTest::promise2Said);
        CHECKS.run(EdgesOfChangesTest::promise2Borrowed);
        CHECKS.run(EdgesOfChangesTest::promise2Order);
        CHECKS.run(EdgesOfChangesTest::promise3Returns);
        CHECKS.run(EdgesOfChangesTest::promise3NoPlayer);
        CHECKS.run(EdgesOfChangesTest::promise3Same);
        CHECKS.run(EdgesOfChangesTest::promise3Order);
        CHECKS.run(EdgesOfChangesTest::promise4Returns);
        CHECKS.run(EdgesOfChangesTest::promise4NoPlayer);
        CHECKS.run(EdgesOfChangesTest::promise4Same);
        CHECKS.run(EdgesOfChangesTest::promise4Order);
        CHECKS.run(EdgesOfChangesTest::promise5Returns);
        CHECKS.run(EdgesOfChangesTest::promise5Nobody);
        CHECKS.run(EdgesOfChangesTest::promise6Returns);
        CHECKS.run(EdgesOfChangesTest::promise6Colour);
        CHECKS.run(EdgesOfChangesTest::promise6Many);
        CHECKS.run(EdgesOfChangesTest::promise6Untrue);
        CHECKS.run(EdgesOfChangesTest::promise6Order);
        CHECKS.run(EdgesOfChangesTest::promise7Returns);
        CHECKS.run(EdgesOfChangesTest::promise7Colour);
        CHECKS.run(EdgesOfChangesTest::promise7Many);
        CHECKS.run(EdgesOfChangesTest::promise7Untrue);
        CHECKS.run(EdgesOfChangesTest::promise7Order);
        CHECKS.run(EdgesOfChangesTest::promise8AllOpen);
        CHECKS.run(EdgesOfChangesTest::promise8Turn);
        CHECKS.run(EdgesOfChangesTest::promise8SamePlayers);
        CHECKS.run(EdgesOfChangesTest::promise8LooksAway);
        CHECKS.end("EdgesOfChangesTest");
    }
}
