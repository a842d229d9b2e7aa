/** Each promise of the document by itself, with answers that were worked out by hand. */
public final class PromisesTest {
    private static final Class<IndexOutOfBoundsException> INDEX = IndexOutOfBoundsException.class;
    private static final Class<IllegalArgumentException> ARGUMENT = IllegalArgumentException.class;
    private static final Class<IllegalStateException> STATE = IllegalStateException.class;

    private static final int[] NO_COLOURS = {-1, 3, 4, Integer.MIN_VALUE, Integer.MAX_VALUE};
    private static final int[] NO_NUMBERS = {-1, 6, Integer.MIN_VALUE, Integer.MAX_VALUE};

    private static final Checks CHECKS = new Checks();

    private static BorrowedHats game(int... colours) {
        return Games.game(colours);
    }

    private static void due(String what, Object want, Object got) {
        CHECKS.due(what, want, got);
    }

    private static void dueThrow(String what, Class<? extends RuntimeException> want,
            Checks.Call call) {
        CHECKS.dueThrow(what, want, call);
    }

    /** The players of three that are not there. */
    private static int[] noPlayers() {
        return new int[] {-1, 3, 4, 5, Integer.MIN_VALUE, Integer.MAX_VALUE};
    }

    private interface OfOne {
        Object answer(BorrowedHats game, int player);
    }

    private interface OfTwo {
        Object answer(BorrowedHats game, int player, int other);
    }

    private static void dueOnlyForPlayers(String name, OfOne call) {
        BorrowedHats game = game(0, 1, 2);
        BorrowedHats empty = game();
        long before = game.digest();
        for (int p : noPlayers()) {
            dueThrow(name + " of " + p, INDEX, () -> call.answer(game, p));
        }
        dueThrow(name + " without players", INDEX, () -> call.answer(empty, 0));
        due("digest behind " + name, before, game.digest());
    }

    private static void dueOnlyForTwoPlayers(String name, OfTwo call) {
        dueOnlyForPlayers(name + " (first)", (game, p) -> call.answer(game, p, 0));
        dueOnlyForPlayers(name + " (second)", (game, p) -> call.answer(game, 0, p));
        dueOnlyForPlayers(name + " (both)", (game, p) -> call.answer(game, p, p));
    }

    private static void promise1New() {
        BorrowedHats game = new BorrowedHats();
        due("1: players", 0, game.players());
        due("1: turnsTaken", 0, game.turnsTaken());
        due("1: silentTurns", 0, game.silentTurns());
        due("1: playerInTurn", -1, game.playerInTurn());
        due("1: openWays", 1, game.openWays());
        for (int colour = 0; colour < 3; colour++) {
            due("1: hatsOf " + colour, 0, game.hatsOf(colour));
        }
        BorrowedHats another = new BorrowedHats();
        game.addPlayer(2);
        due("1: another game has its own players", 0, another.players());
    }

    private static void promise2AddPlayer() {
        BorrowedHats game = new BorrowedHats();
        int[] colours = {2, 0, 1, 1, 2};
        int ways = 1;
        for (int i = 0; i < 5; i++) {
            due("2: number", i, game.addPlayer(colours[i]));
            ways = ways * 3;
            due("2: players", i + 1, game.players());
            due("2: hat", colours[i], game.hatOf(i));
            due("2: openWays", ways, game.openWays());
        }
        long before = game.digest();
        dueThrow("2: a sixth", STATE, () -> game.addPlayer(0));
        dueThrow("2: a sixth of no colour", INDEX, () -> game.addPlayer(3));
        due("2: digest behind it", before, game.digest());
        for (int colour : NO_COLOURS) {
            dueThrow("2: colour " + colour, INDEX, () -> game(0).addPlayer(colour));
        }
        game.begin();
        dueThrow("2: a sixth in another game", STATE, () -> game.addPlayer(0));
    }

    private static void promise2AddPlayerInAGame() {
        BorrowedHats turned = game(0);
        turned.takeTurn();
        BorrowedHats borrowed = game(1, 1);
        borrowed.borrow(0, 1);
        BorrowedHats atLeast = game(0, 1);
        atLeast.sayAtLeast(2, 0);
        BorrowedHats atMost = game();
        atMost.sayAtMost(1, 0);
        for (BorrowedHats game : new BorrowedHats[] {turned, borrowed, atLeast, atMost}) {
            long before = game.digest();
            dueThrow("2: in a game", STATE, () -> game.addPlayer(0));
            dueThrow("2: in a game, no colour", INDEX, () -> game.addPlayer(-1));
            due("2: digest behind it", before, game.digest());
            int players = game.players();
            game.begin();
            due("2: in another game", players, game.addPlayer(0));
        }
    }

    private static void promise2AddPlayerStillGoesOn() {
        BorrowedHats game = game();
        dueThrow("2: a turn of nobody", STATE, game::takeTurn);
        due("2: behind a turn that was none", 0, game.addPlayer(0));
        dueThrow("2: untrue", STATE, () -> game.sayAtLeast(1, 1));
        dueThrow("2: untrue", STATE, () -> game.sayAtMost(0, 0));
        dueThrow("2: no number", ARGUMENT, () -> game.sayAtMost(0, 6));
        dueThrow("2: the same", ARGUMENT, () -> game.borrow(0, 0));
        dueThrow("2: no player", INDEX, () -> game.borrow(0, 1));
        due("2: behind what was not said or borrowed", 1, game.addPlayer(1));
        game.turnAway(0, 1);
        game.openAfterTurn();
        game.turnsUntilAllCertain();
        game.digest();
        due("2: behind looking away", 2, game.addPlayer(1));
        due("2: who looks away", false, game.sees(0, 1));
        due("2: the new one is seen", true, game.sees(0, 2) && game.sees(1, 2));
        due("2: the new one sees", true, game.sees(2, 0) && game.sees(2, 1));
    }

    private static void promise3TurnAway() {
        BorrowedHats game = game(0, 1, 2);
        due("3: possible ahead", 3, game.possibleWays(0));
        due("3: away", false, game.turnAway(0, 1));
        due("3: possible then", 9, game.possibleWays(0));
        due("3: the other one still sees", true, game.sees(1, 0));
        due("3: of another one", true, game.sees(0, 2));
        due("3: openWays", 27, game.openWays());
        due("3: away from all", false, game.turnAway(0, 2));
        due("3: possible then", 27, game.possibleWays(0));
        due("3: there again", true, game.turnAway(0, 1));
        due("3: sees again", true, game.sees(0, 1));
        due("3: possible then", 9, game.possibleWays(0));
        due("3: no turn", 0, game.turnsTaken());
    }

    private static void promise3WrongTurnAway() {
        dueOnlyForTwoPlayers("3: turnAway", (game, p, q) -> game.turnAway(p, q));
        BorrowedHats game = game(0, 1, 2);
        long before = game.digest();
        for (int p = 0; p < 3; p++) {
            int same = p;
            dueThrow("3: both the same", ARGUMENT, () -> game.turnAway(same, same));
        }
        due("3: digest behind it", before, game.digest());
    }

    private static void promise4Borrow() {
        BorrowedHats game = Games.gameOfTwoWays();
        due("4: colour then", 0, game.borrow(0, 1));
        due("4: hat", 0, game.hatOf(0));
        due("4: hat", 1, game.hatOf(1));
        due("4: openWays", 2, game.openWays());
        due("4: first has 0", 1, game.openWaysWith(0, 0));
        due("4: first has 1", 0, game.openWaysWith(0, 1));
        due("4: first has 2", 1, game.openWaysWith(0, 2));
        due("4: second has 1", 2, game.openWaysWith(1, 1));
        due("4: known", true, game.isKnownToAll(1));
        due("4: not known", false, game.isKnownToAll(0));
        due("4: no turn", 1, game.turnsTaken());
        due("4: in turn", 1, game.playerInTurn());
        due("4: back again", 0, game.borrow(1, 0));
        due("4: hat", 1, game.hatOf(0));
        due("4: first has 1", 2, game.openWaysWith(0, 1));
    }

    private static void promise4BorrowOfFive() {
        BorrowedHats game = game(0, 1, 2, 2, 1);
        game.turnAway(2, 0);
        due("4: first of five", 1, game.borrow(0, 4));
        due("4: hats", "10", "" + game.hatOf(0) + game.hatOf(4));
        due("4: others", "122", "" + game.hatOf(1) + game.hatOf(2) + game.hatOf(3));
        due("4: openWays", 243, game.openWays());
        due("4: who sees whom stays", "false true true", game.sees(2, 0) + " " + game.sees(2, 4)
                + " " + game.sees(0, 2));
        due("4: equal hats", 2, game.borrow(3, 2));
    }

    private static void promise4WrongBorrow() {
        dueOnlyForTwoPlayers("4: borrow", (game, p, q) -> game.borrow(p, q));
        BorrowedHats game = game(0, 1, 2);
        long before = game.digest();
        for (int p = 0; p < 3; p++) {
            int same = p;
            dueThrow("4: both the same", ARGUMENT, () -> game.borrow(same, same));
        }
        due("4: digest behind it", before, game.digest());
        due("4: nothing borrowed", 3, game.addPlayer(0));
    }

    private static void promise5TakeTurn() {
        BorrowedHats game = game(1, 1);
        game.sayAtLeast(1, 1);
        due("5: silence", -1, game.takeTurn());
        due("5: (0, 1), (1, 1), (2, 1) are open", 3, game.openWays());
        due("5: the second one has 1", 3, game.openWaysWith(1, 1));
        due("5: next", 1, game.playerInTurn());
        due("5: told", 1, game.takeTurn());
        due("5: still open", 3, game.openWays());
        due("5: round again", 0, game.playerInTurn());
        due("5: silence", -1, game.takeTurn());
        BorrowedHats told = Games.gameOfTwoWays();
        due("5: (1, 0) and (1, 2) are open", 2, told.openWays());
        due("5: told 1", 2, told.openWaysWith(0, 1));
        due("5: not (0, 1), (1, 1), (2, 1)", 0, told.openWaysWith(1, 1));
        dueThrow("5: nobody", STATE, () -> game().takeTurn());
    }

    /** Open are (1, 0) and (0, 1): the first one would be certain in both, but of two colours. */
    private static void promise5TellsWhatWouldBeToldOtherwise() {
        BorrowedHats game = game(1, 0);
        game.sayAtLeast(1, 1);
        game.sayAtLeast(0, 1);
        due("5: told", 1, game.takeTurn());
        due("5: not (0, 1), where 0 would be told", 1, game.openWays());
    }

    private static void promise5TakeTurnLookingAway() {
        BorrowedHats game = game(1, 0);
        game.sayAtLeast(1, 1);
        game.turnAway(0, 1);
        due("5: looking away", -1, game.takeTurn());
        due("5: nothing is ruled out", 5, game.openWays());
        BorrowedHats alone = game(2);
        due("5: alone", -1, alone.takeTurn());
        alone.sayAtLeast(2, 1);
        due("5: alone, told", 2, alone.takeTurn());
        due("5: alone, in turn", 0, alone.playerInTurn());
    }

    private static void promise6SayAtLeast() {
        BorrowedHats game = game(1, 1, 0);
        due("6: none at least", 27, game.sayAtLeast(2, 0));
        due("6: one at least", 19, game.sayAtLeast(1, 1));
        due("6: openWays", 19, game.openWays());
        due("6: two at least", 7, game.sayAtLeast(1, 2));
        due("6: another colour", 3, game.sayAtLeast(0, 1));
        due("6: said again", 3, game.sayAtLeast(0, 1));
        due("6: five of five", 1, game(2, 2, 2, 2, 2).sayAtLeast(2, 5));
        due("6: without players", 1, game().sayAtLeast(2, 0));
    }

    private static void promise6WrongSayAtLeast() {
        BorrowedHats game = game(1, 1, 0);
        long before = game.digest();
        for (int colour : NO_COLOURS) {
            dueThrow("6: colour " + colour, INDEX, () -> game.sayAtLeast(colour, 0));
            dueThrow("6: colour and number", INDEX, () -> game.sayAtLeast(colour, 6));
        }
        for (int many : NO_NUMBERS) {
            dueThrow("6: many " + many, ARGUMENT, () -> game.sayAtLeast(1, many));
        }
        dueThrow("6: untrue", STATE, () -> game.sayAtLeast(1, 3));
        dueThrow("6: untrue", STATE, () -> game.sayAtLeast(0, 5));
        dueThrow("6: untrue", STATE, () -> game.sayAtLeast(2, 1));
        dueThrow("6: without players", STATE, () -> game().sayAtLeast(0, 1));
        due("6: digest behind it", before, game.digest());
        due("6: nothing said", 3, game.addPlayer(0));
    }

    private static void promise7SayAtMost() {
        BorrowedHats game = game(1, 1, 0);
        due("7: five at most", 27, game.sayAtMost(1, 5));
        due("7: two at most", 26, game.sayAtMost(1, 2));
        due("7: none of a colour", 7, game.sayAtMost(2, 0));
        due("7: openWays", 7, game.openWays());
        due("7: one at most", 3, game.sayAtMost(0, 1));
        due("7: without players", 1, game().sayAtMost(0, 0));
    }

    private static void promise7WrongSayAtMost() {
        BorrowedHats game = game(1, 1, 0);
        long before = game.digest();
        for (int colour : NO_COLOURS) {
            dueThrow("7: colour " + colour, INDEX, () -> game.sayAtMost(colour, 5));
            dueThrow("7: colour and number", INDEX, () -> game.sayAtMost(colour, -1));
        }
        for (int many : NO_NUMBERS) {
            dueThrow("7: many " + many, ARGUMENT, () -> game.sayAtMost(2, many));
        }
        dueThrow("7: untrue", STATE, () -> game.sayAtMost(1, 1));
        dueThrow("7: untrue", STATE, () -> game.sayAtMost(0, 0));
        due("7: digest behind it", before, game.digest());
        due("7: nothing said", 3, game.addPlayer(0));
    }

    private static void promise8Begin() {
        due("8: without players", 1, game().begin());
        BorrowedHats game = Games.gameOfTwoWays();
        game.turnAway(0, 1);
        game.borrow(0, 1);
        due("8: ways", 9, game.begin());
        due("8: openWays", 9, game.openWays());
        due("8: turns", 0, game.turnsTaken());
        due("8: silent", 0, game.silentTurns());
        due("8: in turn", 0, game.playerInTurn());
        due("8: hats", "01", "" + game.hatOf(0) + game.hatOf(1));
        due("8: looks away", false, game.sees(0, 1));
        due("8: sees", true, game.sees(1, 0));
        for (int colour = 0; colour < 3; colour++) {
            due("8: each hat", 3, game.openWaysWith(0, colour));
            due("8: each hat", 3, game.openWaysWith(1, colour));
        }
        game.turnAway(0, 1);
        due("8: as new", game(0, 1).digest(), game.digest());
        due("8: of five", 243, game(0, 0, 1, 2, 2).begin());
    }

    private static void promises9To12Counts() {
        BorrowedHats game = game(1, 0, 2);
        due("9: players", 3, game.players());
        due("12: at first", 0, game.playerInTurn());
        game.sayAtLeast(1, 1);
        game.takeTurn();
        due("10: a turn", 1, game.turnsTaken());
        due("11: told", 0, game.silentTurns());
        due("12: next", 1, game.playerInTurn());
        game.takeTurn();
        due("10: two turns", 2, game.turnsTaken());
        due("11: silent", 1, game.silentTurns());
        due("12: last", 2, game.playerInTurn());
        game.takeTurn();
        due("12: round again", 0, game.playerInTurn());
        for (int i = 0; i < 100; i++) {
            game.takeTurn();
        }
        due("10: many turns", 103, game.turnsTaken());
        due("11: of which all but 35 were silent", 68, game.silentTurns());
        due("12: behind many turns", 1, game.playerInTurn());
        due("12: nobody", -1, game().playerInTurn());
        game.begin();
        due("10: in another game", 0, game.turnsTaken());
        due("11: in another game", 0, game.silentTurns());
        due("9: in another game", 3, game.players());
    }

    private static void promise13HatOf() {
        BorrowedHats game = game(2, 0, 1);
        due("13: hats", "201", "" + game.hatOf(0) + game.hatOf(1) + game.hatOf(2));
        dueOnlyForPlayers("13: hatOf", (g, p) -> g.hatOf(p));
    }

    private static void promise14Sees() {
        BorrowedHats game = game(2, 0, 1, 0, 2);
        for (int p = 0; p < 5; p++) {
            for (int q = 0; q < 5; q++) {
                due("14: sees " + p + " " + q, p != q, game.sees(p, q));
            }
        }
        game.turnAway(4, 3);
        due("14: looks away", false, game.sees(4, 3));
        due("14: not the other one", true, game.sees(3, 4));
        dueOnlyForTwoPlayers("14: sees", (g, p, q) -> g.sees(p, q));
    }

    private static void promise15HatsOf() {
        BorrowedHats game = game(0, 2, 0, 2, 0);
        due("15: hatsOf 0", 3, game.hatsOf(0));
        due("15: hatsOf 1", 0, game.hatsOf(1));
        due("15: hatsOf 2", 2, game.hatsOf(2));
        due("15: only of players", 0, game(1).hatsOf(0));
        for (int colour : NO_COLOURS) {
            dueThrow("15: colour " + colour, INDEX, () -> game.hatsOf(colour));
        }
    }

    private static void promises16And17OpenWays() {
        due("16: without players", 1, game().openWays());
        due("16: of four", 81, game(0, 0, 0, 0).openWays());
        BorrowedHats game = game(1, 0);
        due("17: at first", 3, game.openWaysWith(1, 2));
        game.sayAtLeast(1, 1);
        due("16: said", 5, game.openWays());
        due("17: (0, 1)", 1, game.openWaysWith(0, 0));
        due("17: (1, 0), (1, 1), (1, 2)", 3, game.openWaysWith(0, 1));
        due("17: (2, 1)", 1, game.openWaysWith(0, 2));
        due("17: (0, 1), (1, 1), (2, 1)", 3, game.openWaysWith(1, 1));
        dueOnlyForPlayers("17: openWaysWith", (g, p) -> g.openWaysWith(p, 0));
        for (int colour : NO_COLOURS) {
            dueThrow("17: colour " + colour, INDEX, () -> game.openWaysWith(0, colour));
        }
    }

    private static void promise18IsKnownToAll() {
        BorrowedHats game = Games.gameOfTwoWays();
        due("18: known", true, game.isKnownToAll(0));
        due("18: not known", false, game.isKnownToAll(1));
        due("18: at first", false, game(0, 0).isKnownToAll(0));
        BorrowedHats seen = game(1, 0);
        seen.sayAtLeast(1, 1);
        due("18: certain but not known to all", "true false",
                seen.isCertain(0) + " " + seen.isKnownToAll(0));
        dueOnlyForPlayers("18: isKnownToAll", (g, p) -> g.isKnownToAll(p));
    }

    private static void promise19PossibleWays() {
        BorrowedHats game = game(1, 0, 2);
        due("19: the own hat", 3, game.possibleWays(2));
        game.turnAway(2, 0);
        due("19: and another hat", 9, game.possibleWays(2));
        game.sayAtMost(1, 1);
        due("19: the own hat, not 1 for a seen 1", 2, game.possibleWays(1));
        due("19: not (1, 1) of both", 8, game.possibleWays(2));
        dueOnlyForPlayers("19: possibleWays", (g, p) -> g.possibleWays(p));
    }

    private static void promise20HoldsPossible() {
        BorrowedHats game = game(1, 0);
        game.sayAtMost(0, 1);
        due("20: the seen hat", true, game.holdsPossible(0, 1, 0));
        due("20: not another one", false, game.holdsPossible(0, 1, 1));
        due("20: the own hat", true, game.holdsPossible(0, 0, 1));
        due("20: the own hat", true, game.holdsPossible(0, 0, 2));
        due("20: ruled out for the own hat", false, game.holdsPossible(0, 0, 0));
        due("20: not ruled out for the other one", true, game.holdsPossible(1, 1, 0));
        game.turnAway(0, 1);
        due("20: not seen", true, game.holdsPossible(0, 1, 2));
        due("20: not seen", true, game.holdsPossible(0, 0, 0));
        dueOnlyForTwoPlayers("20: holdsPossible", (g, p, q) -> g.holdsPossible(p, q, 0));
        for (int colour : NO_COLOURS) {
            dueThrow("20: colour " + colour, INDEX, () -> game.holdsPossible(0, 1, colour));
            dueThrow("20: colour " + colour, INDEX, () -> game.holdsPossible(1, 1, colour));
        }
    }

    private static void promise21IsCertain() {
        BorrowedHats game = game(1, 0);
        due("21: at first", false, game.isCertain(0));
        game.sayAtLeast(1, 1);
        due("21: sees no other 1", true, game.isCertain(0));
        due("21: sees a 1", false, game.isCertain(1));
        game.turnAway(0, 1);
        due("21: looks away", false, game.isCertain(0));
        dueOnlyForPlayers("21: isCertain", (g, p) -> g.isCertain(p));
    }

    private static void promise22KnowsHatOf() {
        BorrowedHats game = game(1, 0);
        due("22: seen", true, game.knowsHatOf(0, 1));
        due("22: the own", false, game.knowsHatOf(0, 0));
        game.turnAway(0, 1);
        due("22: not seen", false, game.knowsHatOf(0, 1));
        game.turnAway(0, 1);
        game.sayAtLeast(1, 1);
        due("22: the own, certain", true, game.knowsHatOf(0, 0));
        BorrowedHats away = Games.gameOfTwoWays();
        away.turnAway(1, 0);
        due("22: not seen, but told", true, away.knowsHatOf(1, 0));
        dueOnlyForTwoPlayers("22: knowsHatOf", (g, p, q) -> g.knowsHatOf(p, q));
    }

    private static void promise23KnowsCertain() {
        BorrowedHats game = game(1, 0);
        due("23: at first", false, game.knowsCertain(1, 0));
        game.sayAtLeast(1, 1);
        due("23: certain, but the other one could have 1", false, game.knowsCertain(1, 0));
        due("23: of oneself", true, game.knowsCertain(0, 0));
        due("23: of one that is not certain", false, game.knowsCertain(0, 1));
        game.takeTurn();
        due("23: told", true, game.knowsCertain(1, 0));
        BorrowedHats three = game(1, 0, 0);
        three.sayAtMost(1, 1);
        three.sayAtLeast(1, 1);
        three.sayAtMost(2, 0);
        due("23: the only 1 is seen by the other one", true, three.knowsCertain(0, 1));
        three.turnAway(1, 0);
        due("23: looked away from", false, three.knowsCertain(0, 1));
        dueOnlyForTwoPlayers("23: knowsCertain", (g, p, q) -> g.knowsCertain(p, q));
    }

    private static void promise24CertainPlayers() {
        BorrowedHats game = game(1, 0);
        due("24: at first", 0, game.certainPlayers());
        game.sayAtLeast(1, 1);
        due("24: one", 1, game.certainPlayers());
        game.sayAtLeast(0, 1);
        due("24: both", 2, game.certainPlayers());
        due("24: without players", 0, game().certainPlayers());
    }

    private static void promise25OpenAfterTurn() {
        BorrowedHats told = game(1, 0);
        due("25: nothing is known", 9, told.openAfterTurn());
        told.sayAtLeast(1, 1);
        long before = told.digest();
        due("25: would be told", 2, told.openAfterTurn());
        due("25: digest behind it", before, told.digest());
        BorrowedHats silent = game(1, 1);
        silent.sayAtLeast(1, 1);
        due("25: would be silent", 3, silent.openAfterTurn());
        due("25: openWays", 5, silent.openWays());
        silent.takeTurn();
        silent.sayAtMost(0, 0);
        due("25: of the second one", 2, silent.openAfterTurn());
        dueThrow("25: nobody", STATE, () -> game().openAfterTurn());
    }

    private static BorrowedHats gameOfOnes(int players) {
        BorrowedHats game = new BorrowedHats();
        for (int p = 0; p < players; p++) {
            game.addPlayer(1);
        }
        game.sayAtMost(2, 0);
        game.sayAtLeast(1, 1);
        return game;
    }

    private static void promise26TurnsUntilCertain() {
        BorrowedHats game = game(1, 0);
        due("26: never", -1, game.turnsUntilCertain(0));
        game.sayAtLeast(1, 1);
        due("26: now", 0, game.turnsUntilCertain(0));
        due("26: never", -1, game.turnsUntilCertain(1));
        due("26: the last of two", 1, gameOfOnes(2).turnsUntilCertain(1));
        due("26: the last of three", 2, gameOfOnes(3).turnsUntilCertain(2));
        BorrowedHats five = gameOfOnes(5);
        long before = five.digest();
        due("26: the last of five", 4, five.turnsUntilCertain(4));
        due("26: the first of five", -1, five.turnsUntilCertain(0));
        due("26: digest behind it", before, five.digest());
        five.takeTurn();
        due("26: behind a turn", 3, five.turnsUntilCertain(4));
        dueOnlyForPlayers("26: turnsUntilCertain", (g, p) -> g.turnsUntilCertain(p));
    }

    private static void promise27TurnsUntilAllCertain() {
        due("27: without players", 0, game().turnsUntilAllCertain());
        due("27: never", -1, game(0, 1).turnsUntilAllCertain());
        BorrowedHats all = game(1, 0);
        all.sayAtLeast(1, 1);
        due("27: one, but not all", -1, all.turnsUntilAllCertain());
        all.sayAtLeast(0, 1);
        due("27: now", 0, all.turnsUntilAllCertain());
        BorrowedHats game = game(1, 0);
        game.sayAtLeast(1, 1);
        game.sayAtMost(2, 0);
        long before = game.digest();
        due("27: told by the first one", 1, game.turnsUntilAllCertain());
        game.borrow(0, 1);
        due("27: only the second one ever is", -1, game.turnsUntilAllCertain());
        game.borrow(0, 1);
        due("27: digest behind it", before, game.digest());
        game.takeTurn();
        due("27: then", 0, game.turnsUntilAllCertain());
    }

    private static void promises26And27AtMost40() {
        BorrowedHats game = Games.gameOfLongWaits();
        int[] waits = {12, -1, 39, 40, 37};
        for (int p = 0; p < 5; p++) {
            due("26: long wait of " + p, waits[p], game.turnsUntilCertain(p));
        }
        due("27: 43 turns", -1, game.turnsUntilAllCertain());
        game.takeTurn();
        game.takeTurn();
        due("26: 41 turns", -1, game.turnsUntilCertain(1));
        due("27: 41 turns", -1, game.turnsUntilAllCertain());
        game.takeTurn();
        due("26: 40 turns", 40, game.turnsUntilCertain(1));
        due("27: 40 turns", 40, game.turnsUntilAllCertain());
        for (int turns = 1; turns <= 40; turns++) {
            due("27: not yet", true, game.certainPlayers() < 5);
            game.takeTurn();
            due("27: fewer turns", 40 - turns, game.turnsUntilAllCertain());
        }
        due("27: all are certain then", 5, game.certainPlayers());
    }

    private static void promise28BestToName() {
        due("28: without players", -1, game().bestToName());
        due("28: the smallest of several", 0, game(2, 1, 0).bestToName());
        due("28: of those that somebody has", 1, game(2, 1, 1).bestToName());
        due("28: the only one", 2, game(2, 2).bestToName());
        BorrowedHats game = game(0, 1);
        game.sayAtLeast(0, 1);
        long before = game.digest();
        due("28: the fewest ways", 1, game.bestToName());
        due("28: digest behind it", before, game.digest());
        game.sayAtMost(2, 0);
        game.sayAtLeast(1, 1);
        due("28: alike again", 0, game.bestToName());
        BorrowedHats two = game(2, 0, 0);
        two.sayAtMost(0, 2);
        two.sayAtMost(2, 1);
        two.sayAtLeast(2, 1);
        due("28: at least one, of 12 ways 9 with 0 and 12 with 2", 0, two.bestToName());
        BorrowedHats first = game(0, 1, 1);
        first.sayAtMost(0, 1);
        due("28: 12 ways of 20 with 0, 16 with 1", 0, first.bestToName());
    }

    private static void promise29CertainIfTold() {
        BorrowedHats game = game(1, 0, 2);
        due("29: only this one", 1, game.certainIfTold(1));
        game.sayAtMost(0, 1);
        game.sayAtLeast(0, 1);
        due("29: certain already", 1, game.certainPlayers());
        long before = game.digest();
        due("29: told of the certain one", 1, game.certainIfTold(1));
        due("29: told of another one", 2, game.certainIfTold(0));
        due("29: digest behind it", before, game.digest());
        BorrowedHats away = game(0, 1);
        away.turnAway(0, 1);
        away.turnAway(1, 0);
        away.sayAtLeast(0, 1);
        away.sayAtMost(0, 1);
        due("29: told to one that looks away", 1, away.certainIfTold(0));
        away.sayAtMost(2, 0);
        due("29: nobody is certain", 0, away.certainPlayers());
        due("29: told to both", 2, away.certainIfTold(0));
        dueOnlyForPlayers("29: certainIfTold", (g, p) -> g.certainIfTold(p));
    }

    private static void promise30MeanPossible() {
        due("30: without players", 0.0, game().meanPossible());
        due("30: alone", 3.0, game(2).meanPossible());
        BorrowedHats game = game(1, 0);
        due("30: at first", 3.0, game.meanPossible());
        game.turnAway(1, 0);
        due("30: looking away", 6.0, game.meanPossible());
        game.turnAway(1, 0);
        game.sayAtLeast(1, 1);
        due("30: 1 and 3", 2.0, game.meanPossible());
        game.sayAtMost(2, 0);
        due("30: 1 and 2", 1.5, game.meanPossible());
        BorrowedHats three = game(1, 0, 0);
        three.sayAtMost(0, 2);
        due("30: 2, 3 and 3", 8.0 / 3.0, three.meanPossible());
    }

    private static long digestOf(long... numbers) {
        long d = 2053;
        for (long x : numbers) {
            d = d * 31 + x;
        }
        return d;
    }

    private static void promise31Digest() {
        due("31: without players", digestOf(0, 0, 0, -1, 1, 0, -1, 0), game().digest());
        due("31: alone", digestOf(1, 0, 0, 0, 3, 0, 2, 3,
                2, 3, 0, 0, 1, 0, 0, 0), game(2).digest());
        BorrowedHats game = game(1, 0);
        due("31: at first", digestOf(2, 0, 0, 0, 9, 0, 0, 9,
                1, 3, 0, 0, 1, 0, 0, 0, 1, 1, 0,
                0, 3, 0, 0, 1, 1, 1, 0, 0, 0, 0), game.digest());
        game.sayAtLeast(1, 1);
        game.takeTurn();
        game.takeTurn();
        due("31: (1, 0) and (1, 2) are open", digestOf(2, 2, 1, 0, 2, 1, 0, 2,
                1, 1, 1, 1, 1, 0, 1, 1, 1, 1, 0,
                0, 2, 0, 0, 2, 1, 1, 1, 0, 0, 0), game.digest());
        due("31: again", game.digest(), game.digest());
    }

    public static void main(String[] args) {
        promise1New();
        promise2AddPlayer();
        promise2AddPlayerInAGame();
        promise2AddPlayerStillGoesOn();
        promise3TurnAway();
        promise3WrongTurnAway();
        promise4Borrow();
        promise4BorrowOfFive();
        promise4WrongBorrow();
        promise5TakeTurn();
        promise5TellsWhatWouldBeToldOtherwise();
        promise5TakeTurnLookingAway();
        promise6SayAtLeast();
        promise6WrongSayAtLeast();
        promise7SayAtMost();
        promise7WrongSayAtMost();
        promise8Begin();
        promises9To12Counts();
        promise13HatOf();
        promise14Sees();
        promise15HatsOf();
        promises16And17OpenWays();
        promise18IsKnownToAll();
        promise19PossibleWays();
        promise20HoldsPossible();
        promise21IsCertain();
        promise22KnowsHatOf();
        promise23KnowsCertain();
        promise24CertainPlayers();
        promise25OpenAfterTurn();
        promise26TurnsUntilCertain();
        promise27TurnsUntilAllCertain();
        promises26And27AtMost40();
        promise28BestToName();
        promise29CertainIfTold();
        promise30MeanPossible();
        promise31Digest();
        CHECKS.end("PromisesTest");
    }
}
