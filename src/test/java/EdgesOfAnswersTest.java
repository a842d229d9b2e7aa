import java.math.BigInteger;
import java.util.ArrayList;
import java.util.List;

/** The edges that the promises 9 to 31 name (the calls that ask, and change nothing). */
public final class EdgesOfAnswersTest {
    private static final Class<IndexOutOfBoundsException> INDEX = IndexOutOfBoundsException.class;
    private static final Class<IllegalStateException> STATE = IllegalStateException.class;

    private static final int[] NO_COLOURS = {-1, 3, Integer.MIN_VALUE, Integer.MAX_VALUE};
    private static final int[] WAYS = {1, 3, 9, 27, 81, 243};

    private static final Checks CHECKS = new Checks();

    private static void sentence(String text) {
        CHECKS.sentence(text);
    }

    private static void due(String what, Object want, Object got) {
        CHECKS.due(what, want, got);
    }

    private static BorrowedHats game(int... colours) {
        return Games.game(colours);
    }

    /** All hats are of one colour, and everybody heard so. */
    private static BorrowedHats gameOfOneWay(int players) {
        int[] colours = new int[players];
        java.util.Arrays.fill(colours, 2);
        BorrowedHats game = game(colours);
        game.sayAtLeast(2, players);
        return game;
    }

    // ---- what must be refused, and change nothing

    private interface OfOne {
        Object answer(BorrowedHats game, int player);
    }

    private interface OfTwo {
        Object answer(BorrowedHats game, int player, int other);
    }

    private static void dueOnlyForPlayers(OfOne call) {
        for (int n = 0; n <= 5; n++) {
            BorrowedHats game = Games.gameOf(n);
            for (int none : new int[] {-1, n, n + 1, Integer.MIN_VALUE, Integer.MAX_VALUE}) {
                CHECKS.dueRefused(none + " of " + n, INDEX, game, () -> call.answer(game, none));
            }
            for (int p = 0; p < n; p++) {
                int player = p;
                String answer = Checks.answer(() -> call.answer(game, player));
                due(p + " of " + n + " throws", false, answer.startsWith("throws"));
            }
        }
    }

    private static void dueOnlyForTwoPlayers(OfTwo call) {
        dueOnlyForPlayers((game, p) -> call.answer(game, p, 0));
        dueOnlyForPlayers((game, p) -> call.answer(game, 0, p));
        dueOnlyForPlayers((game, p) -> call.answer(game, p, p));
    }

    private static void dueOnlyOfColours(OfOne call) {
        BorrowedHats game = Games.gameOf(5);
        for (int colour : NO_COLOURS) {
            CHECKS.dueRefused("colour " + colour, INDEX, game, () -> call.answer(game, colour));
        }
        for (int c = 0; c <= 2; c++) {
            int colour = c;
            String answer = Checks.answer(() -> call.answer(game, colour));
            due("colour " + c + " throws", false, answer.startsWith("throws"));
        }
    }

    private static void dueNothingChanged(String name, OfOne call) {
        List<BorrowedHats> games = List.of(Games.gameOf(5), Games.gameOfTwoWays(),
                Games.gameOfOneOne(5, 4), Games.gameOfLongWaits(), gameOfOneWay(3), game(1));
        for (BorrowedHats game : games) {
            String before = Games.asked(game);
            for (int p = 0; p < game.players(); p++) {
                Object first = call.answer(game, p);
                due(name + " asked again", first, call.answer(game, p));
            }
            due("all that can be asked behind " + name, before, Games.asked(game));
        }
        BorrowedHats game = Games.gameOf(4);
        call.answer(game, 3);
        due("a new one may join behind " + name, 4, game.addPlayer(1));
    }

    // ---- Promises 9 to 15

    private static void promise9() {
        sentence("9: Returns how many players there are");
        for (int n = 0; n <= 5; n++) {
            BorrowedHats game = Games.gameOf(n);
            due("of " + n, n, game.players());
            game.begin();
            due("of " + n + " in another game", n, game.players());
        }
        BorrowedHats five = Games.gameOf(5);
        CHECKS.dueThrow("a sixth", STATE, () -> five.addPlayer(0));
        due("behind a sixth", 5, five.players());
    }

    private static void promise10() {
        sentence("10: Returns how many turns were taken in this game");
        BorrowedHats game = game();
        CHECKS.dueThrow("a turn of nobody", STATE, game::takeTurn);
        due("behind a turn of nobody", 0, game.turnsTaken());
        game.addPlayer(2);
        game.openAfterTurn();
        game.turnsUntilAllCertain();
        game.sayAtLeast(2, 0);
        due("behind turns only thought of", 0, game.turnsTaken());
        for (int turns = 1; turns <= 50; turns++) {
            game.takeTurn();
            due("turns", turns, game.turnsTaken());
        }
        game.sayAtLeast(2, 1);
        for (int turns = 51; turns <= 60; turns++) {
            due("told", 2, game.takeTurn());
            due("turns, told ones too", turns, game.turnsTaken());
        }
        game.begin();
        due("in another game", 0, game.turnsTaken());
        game.takeTurn();
        due("a turn of another game", 1, game.turnsTaken());
    }

    private static void promise11() {
        sentence("11: Returns how many of them were silent");
        BorrowedHats told = gameOfOneWay(5);
        BorrowedHats silent = Games.gameOf(5);
        BorrowedHats both = Games.gameOfOneOne(5, 4);
        due("at first", 0, silent.silentTurns());
        for (int turns = 1; turns <= 20; turns++) {
            told.takeTurn();
            silent.takeTurn();
            both.takeTurn();
            due("none", 0, told.silentTurns());
            due("all", turns, silent.silentTurns());
            due("four of five", turns - turns / 5, both.silentTurns());
        }
        both.begin();
        due("in another game", 0, both.silentTurns());
    }

    private static void promise12() {
        sentence("12: Returns whose turn it is; -1 without players");
        BorrowedHats game = game();
        due("without players", -1, game.playerInTurn());
        game.begin();
        due("without players in another game", -1, game.playerInTurn());
        for (int n = 1; n <= 5; n++) {
            game.addPlayer(1);
            due("at first of " + n, 0, game.playerInTurn());
            for (int turn = 1; turn <= n; turn++) {
                game.takeTurn();
                due("turn of " + n, turn == n ? 0 : turn, game.playerInTurn());
            }
            game.takeTurn();
            game.begin();
            due("in another game of " + n, 0, game.playerInTurn());
        }
    }

    private static void promise13NoPlayer() {
        sentence("13: Throws IndexOutOfBoundsException if there is no such player");
        dueOnlyForPlayers((game, p) -> game.hatOf(p));
    }

    private static void promise13Returns() {
        sentence("13: Returns the colour of the hat");
        BorrowedHats game = Games.gameOf(5);
        for (int p = 0; p < 5; p++) {
            due("hat of " + p, Games.COLOURS[p], game.hatOf(p));
        }
        game.borrow(0, 4);
        due("borrowed by the first", 0, game.hatOf(0));
        due("borrowed by the last", 1, game.hatOf(4));
    }

    private static void promise14NoPlayer() {
        sentence("14: Throws IndexOutOfBoundsException if there is no such player");
        dueOnlyForTwoPlayers((game, p, q) -> game.sees(p, q));
    }

    private static void promise14Returns() {
        sentence("14: Returns whether the first one sees the hat of the second one");
        BorrowedHats game = Games.gameOf(5);
        due("the first the last", true, game.sees(0, 4));
        game.turnAway(0, 4);
        due("the first the last", false, game.sees(0, 4));
        due("the last the first", true, game.sees(4, 0));
        due("the own hat", false, game.sees(4, 4));
    }

    private static void promise15NoColour() {
        sentence("15: Throws IndexOutOfBoundsException if colour is not 0 to 2");
        dueOnlyOfColours((game, colour) -> game.hatsOf(colour));
        for (int colour : NO_COLOURS) {
            CHECKS.dueThrow("without players", INDEX, () -> game().hatsOf(colour));
        }
    }

    private static void promise15Returns() {
        sentence("15: Returns how many players have a hat of it");
        for (int colour = 0; colour <= 2; colour++) {
            due("without players", 0, game().hatsOf(colour));
            due("all five", 5, game(colour, colour, colour, colour, colour).hatsOf(colour));
            int other = (colour + 1) % 3;
            due("none of five", 0, game(other, other, other, other, other).hatsOf(colour));
        }
    }

    // ---- Promises 16 to 18

    private static void promise16() {
        sentence("16: Returns how many ways are open (1 without players)");
        due("without players", 1, game().openWays());
        BorrowedHats nobody = game();
        nobody.sayAtMost(0, 0);
        due("without players, behind what was said", 1, nobody.openWays());
        for (int n = 1; n <= 5; n++) {
            due("the most of " + n, WAYS[n], Games.gameOf(n).openWays());
            due("the fewest of " + n, 1, gameOfOneWay(n).openWays());
        }
    }

    private static void promise17NoPlayer() {
        sentence("17: Throws IndexOutOfBoundsException if there is no such player");
        dueOnlyForPlayers((game, p) -> game.openWaysWith(p, 0));
    }

    private static void promise17NoColour() {
        sentence("17: Throws IndexOutOfBoundsException if colour is not 0 to 2");
        dueOnlyOfColours((game, colour) -> game.openWaysWith(0, colour));
        dueOnlyOfColours((game, colour) -> game.openWaysWith(4, colour));
        for (int colour : NO_COLOURS) {
            CHECKS.dueThrow("neither", INDEX, () -> game().openWaysWith(0, colour));
        }
    }

    private static void promise17Returns() {
        sentence("17: Returns in how many open ways this one has it");
        BorrowedHats game = gameOfOneWay(5);
        due("none", 0, game.openWaysWith(4, 0));
        due("all", 1, game.openWaysWith(4, 2));
        game.begin();
        due("a third of all", 81, game.openWaysWith(4, 0));
        game.sayAtMost(1, 0);
        due("none of 32", 0, game.openWaysWith(0, 1));
        due("half of 32", 16, game.openWaysWith(0, 2));
    }

    private static void promise18NoPlayer() {
        sentence("18: Throws IndexOutOfBoundsException if there is no such player");
        dueOnlyForPlayers((game, p) -> game.isKnownToAll(p));
    }

    private static void promise18Returns() {
        sentence("18: Returns whether this one has the same colour in all open ways");
        due("one way", true, gameOfOneWay(5).isKnownToAll(4));
        due("two ways, one colour", true, Games.gameOfTwoWays().isKnownToAll(0));
        due("two ways, two colours", false, Games.gameOfTwoWays().isKnownToAll(1));
        BorrowedHats game = game(2, 2, 2, 2, 2);
        game.sayAtMost(1, 0);
        game.sayAtLeast(2, 4);
        due("all ways but one of six", "5 false",
                game.openWaysWith(3, 2) + " " + game.isKnownToAll(3));
        due("alone", false, game(1).isKnownToAll(0));
        BorrowedHats own = Games.gameOfOneOne(5, 4);
        due("known to this one alone", "true false", own.isCertain(4) + " " + own.isKnownToAll(4));
    }

    // ---- Promises 19 to 24

    private static void promise19NoPlayer() {
        sentence("19: Throws IndexOutOfBoundsException if there is no such player");
        dueOnlyForPlayers((game, p) -> game.possibleWays(p));
    }

    private static void promise19Returns() {
        sentence("19: Returns how many ways this one holds possible");
        due("the fewest", 1, gameOfOneWay(5).possibleWays(4));
        due("seeing all", 3, Games.gameOf(5).possibleWays(4));
        BorrowedHats away = Games.gameOf(5);
        Games.lookAwayFromAll(away);
        due("the most", 243, away.possibleWays(4));
        due("alone", 3, game(0).possibleWays(0));
    }

    private static void promise20NoPlayer() {
        sentence("20: Throws IndexOutOfBoundsException if there is no such player");
        dueOnlyForTwoPlayers((game, p, q) -> game.holdsPossible(p, q, 0));
    }

    private static void promise20NoColour() {
        sentence("20: Throws IndexOutOfBoundsException if colour is not 0 to 2");
        dueOnlyOfColours((game, colour) -> game.holdsPossible(0, 4, colour));
        dueOnlyOfColours((game, colour) -> game.holdsPossible(4, 4, colour));
        for (int colour : NO_COLOURS) {
            CHECKS.dueThrow("neither", INDEX, () -> game().holdsPossible(0, 0, colour));
        }
    }

    private static void promise20MayBeTheSame() {
        sentence("20: other: a player, may be the same one");
        BorrowedHats game = Games.gameOf(5);
        game.turnAway(4, 0);
        for (int colour = 0; colour <= 2; colour++) {
            due("the own hat", true, game.holdsPossible(4, 4, colour));
            due("not seen", true, game.holdsPossible(4, 0, colour));
            due("seen", colour == 2, game.holdsPossible(4, 3, colour));
            due("one way", colour == 2, gameOfOneWay(5).holdsPossible(4, 4, colour));
        }
    }

    private static void promise21NoPlayer() {
        sentence("21: Throws IndexOutOfBoundsException if there is no such player");
        dueOnlyForPlayers((game, p) -> game.isCertain(p));
    }

    private static void promise21Returns() {
        sentence("21: Returns whether this one is certain");
        due("alone", false, game(1).isCertain(0));
        due("alone, told", true, gameOfOneWay(1).isCertain(0));
        for (int withOne = 0; withOne < 5; withOne++) {
            BorrowedHats game = Games.gameOfOneOne(5, withOne);
            for (int p = 0; p < 5; p++) {
                due(p + ", " + withOne + " has 1", p == withOne, game.isCertain(p));
            }
        }
    }

    private static void promise22NoPlayer() {
        sentence("22: Throws IndexOutOfBoundsException if there is no such player");
        dueOnlyForTwoPlayers((game, p, q) -> game.knowsHatOf(p, q));
    }

    private static void promise22Same() {
        sentence("22: it is the same in all ways that the first one holds possible");
        BorrowedHats game = Games.gameOf(5);
        due("seen", true, game.knowsHatOf(0, 4));
        due("the own", false, game.knowsHatOf(4, 4));
        game.turnAway(0, 4);
        due("not seen", false, game.knowsHatOf(0, 4));
        BorrowedHats away = gameOfOneWay(5);
        Games.lookAwayFromAll(away);
        due("not seen, but said", true, away.knowsHatOf(0, 4) && away.knowsHatOf(4, 4));
        BorrowedHats two = Games.gameOfTwoWays();
        two.turnAway(0, 1);
        due("the same in one of two", "true false",
                two.knowsHatOf(0, 0) + " " + two.knowsHatOf(0, 1));
    }

    private static void promise23NoPlayer() {
        sentence("23: Throws IndexOutOfBoundsException if there is no such player");
        dueOnlyForTwoPlayers((game, p, q) -> game.knowsCertain(p, q));
    }

    private static void promise23Would() {
        sentence("23: the second one would be certain in all ways that the first one holds"
                + " possible");
        due("in one way", true, gameOfOneWay(5).knowsCertain(4, 0));
        due("in none", false, Games.gameOf(5).knowsCertain(4, 0));
        BorrowedHats game = Games.gameOfOneOne(5, 0);
        due("in two of three", "true false",
                game.isCertain(0) + " " + game.knowsCertain(4, 0));
        due("oneself", "true false",
                game.knowsCertain(0, 0) + " " + game.knowsCertain(4, 4));
        game.takeTurn();
        due("in all that are left", true, game.knowsCertain(4, 0));
        BorrowedHats ruledOut = game(2, 0);
        ruledOut.sayAtLeast(0, 1);
        ruledOut.sayAtMost(0, 1);
        due("in (1, 0) and (2, 0), but not if (0, 0) was open", true,
                ruledOut.knowsCertain(0, 1));
        BorrowedHats would = game(1, 1);
        would.sayAtLeast(1, 1);
        due("in two of three, but not now", "false false",
                would.isCertain(0) + " " + would.knowsCertain(1, 0));
    }

    private static void promise24() {
        sentence("24: Returns how many players are certain");
        due("without players", 0, game().certainPlayers());
        for (int n = 1; n <= 5; n++) {
            due("none of " + n, 0, Games.gameOf(n).certainPlayers());
            due("all of " + n, n, gameOfOneWay(n).certainPlayers());
            due("one of " + n, 1, Games.gameOfOneOne(n, n - 1).certainPlayers());
        }
    }

    // ---- Promises 25 to 29

    private static void promise25NoPlayers() {
        sentence("25: Throws IllegalStateException if there are no players");
        BorrowedHats nobody = game();
        CHECKS.dueRefused("without players", STATE, nobody, nobody::openAfterTurn);
        due("one player", 3, game(1).openAfterTurn());
    }

    private static void promise25Returns() {
        sentence("25: Returns how many ways are open behind the next turn");
        due("told", 2, opened(game(1, 0)));
        due("silent", 3, opened(game(1, 1)));
        int[] open = {195, 171, 135, 81, 81, 81};
        for (int turns = 0; turns <= 5; turns++) {
            due("silent but for the last of five, behind " + turns, open[turns],
                    behindTurns(Games.gameOfOneOne(5, 4), turns).openAfterTurn());
        }
        due("five silent", 243, Games.gameOf(5).openAfterTurn());
        for (int n = 2; n <= 5; n++) {
            int[] all = new int[n];
            java.util.Arrays.fill(all, 1);
            BorrowedHats around = behindTurns(game(all), n);
            around.sayAtLeast(1, n - 1);
            due("the first of " + n + " again", 3, around.openAfterTurn());
        }
        due("the only one", 1, gameOfOneWay(5).openAfterTurn());
    }

    private static void promise25NothingChanged() {
        sentence("25: (nothing is changed)");
        dueNothingChanged("openAfterTurn", (game, p) -> game.openAfterTurn());
    }

    private static int opened(BorrowedHats game) {
        game.sayAtLeast(1, 1);
        return game.openAfterTurn();
    }

    private static BorrowedHats behindTurns(BorrowedHats game, int turns) {
        for (int turn = 0; turn < turns; turn++) {
            game.takeTurn();
        }
        return game;
    }

    private static void promise26NoPlayer() {
        sentence("26: Throws IndexOutOfBoundsException if there is no such player");
        dueOnlyForPlayers((game, p) -> game.turnsUntilCertain(p));
    }

    private static void promise26Returns() {
        sentence("26: Returns behind how many turns this one is certain: 0 if now");
        due("now", 0, Games.gameOfOneOne(5, 4).turnsUntilCertain(4));
        due("now, in a later turn", 0, behindTurns(Games.gameOfOneOne(5, 4), 2)
                .turnsUntilCertain(4));
        due("behind one turn", 1, twoOnes().turnsUntilCertain(1));
        due("then", 0, behindTurns(twoOnes(), 1).turnsUntilCertain(1));
    }

    private static void promise26AtMost40() {
        sentence("26: at most 40");
        due("40", 40, Games.gameOfLongWaits().turnsUntilCertain(3));
        due("39", 39, Games.gameOfLongWaits().turnsUntilCertain(2));
        due("39 of 40", 39, behindTurns(Games.gameOfLongWaits(), 1).turnsUntilCertain(3));
        due("40 of 43", 40, behindTurns(Games.gameOfLongWaits(), 3).turnsUntilCertain(1));
    }

    private static void promise26NotByThen() {
        sentence("26: -1 if not by then");
        due("43", -1, Games.gameOfLongWaits().turnsUntilCertain(1));
        due("41", -1, behindTurns(Games.gameOfLongWaits(), 2).turnsUntilCertain(1));
        due("never", -1, Games.gameOf(5).turnsUntilCertain(0));
    }

    private static void promise26NothingChanged() {
        sentence("26: (nothing is changed)");
        dueNothingChanged("turnsUntilCertain", (game, p) -> game.turnsUntilCertain(p));
    }

    /** The first one is silent, and so the second one is certain: nobody has 2. */
    private static BorrowedHats twoOnes() {
        BorrowedHats game = game(1, 1);
        game.sayAtMost(2, 0);
        game.sayAtLeast(1, 1);
        return game;
    }

    /** The first one tells a hat, and both are certain then. */
    private static BorrowedHats oneAndNone() {
        BorrowedHats game = game(1, 0);
        game.sayAtMost(2, 0);
        game.sayAtLeast(1, 1);
        return game;
    }

    private static void promise27NoPlayers() {
        sentence("27: 0 without players");
        due("without players", 0, game().turnsUntilAllCertain());
    }

    private static void promise27Returns() {
        sentence("27: Returns behind how many turns all are certain, likewise (0 if now)");
        for (int n = 1; n <= 5; n++) {
            due("all of " + n, 0, gameOfOneWay(n).turnsUntilAllCertain());
        }
        due("one turn", 1, oneAndNone().turnsUntilAllCertain());
        due("then", 0, behindTurns(oneAndNone(), 1).turnsUntilAllCertain());
    }

    private static void promise27AtMost40() {
        sentence("27: likewise (at most 40)");
        due("40 of 43", 40, behindTurns(Games.gameOfLongWaits(), 3).turnsUntilAllCertain());
        due("39 of 43", 39, behindTurns(Games.gameOfLongWaits(), 4).turnsUntilAllCertain());
    }

    private static void promise27NotByThen() {
        sentence("27: likewise (-1 if not by then)");
        due("43", -1, Games.gameOfLongWaits().turnsUntilAllCertain());
        due("41", -1, behindTurns(Games.gameOfLongWaits(), 2).turnsUntilAllCertain());
        due("alone", -1, game(1).turnsUntilAllCertain());
        due("all but the first", "-1 0", twoOnes().turnsUntilAllCertain() + " "
                + behindTurns(twoOnes(), 1).turnsUntilCertain(1));
        due("all but the last", "-1 0", Games.gameOfTwoWays().turnsUntilAllCertain() + " "
                + Games.gameOfTwoWays().turnsUntilCertain(0));
    }

    private static void promise27NothingChanged() {
        sentence("27: (nothing is changed)");
        dueNothingChanged("turnsUntilAllCertain", (game, p) -> game.turnsUntilAllCertain());
    }

    private static void promise28NoPlayers() {
        sentence("28: -1 without players");
        due("without players", -1, game().bestToName());
    }

    private static void promise28SomebodyHas() {
        sentence("28: of those that somebody has");
        for (int colour = 0; colour <= 2; colour++) {
            due("alone", colour, game(colour).bestToName());
            due("all five", colour, game(colour, colour, colour, colour, colour).bestToName());
        }
        BorrowedHats nobodyHas0 = game(2, 1, 2);
        nobodyHas0.sayAtMost(0, 1);
        due("the fewest would be of 0, which nobody has", 1, nobodyHas0.bestToName());
        BorrowedHats nobodyHas2 = game(1, 0, 1);
        nobodyHas2.sayAtMost(2, 0);
        due("none would be of 2, which nobody has", 0, nobodyHas2.bestToName());
    }

    private static void promise28Fewest() {
        sentence("28: for which the fewest ways would be open, if it was said aloud that at least"
                + " one player has it");
        BorrowedHats byOne = game(0, 2);
        byOne.sayAtMost(2, 1);
        due("4 of 8 with 2, 5 with 0", 2, byOne.bestToName());
        byOne.begin();
        byOne.sayAtMost(0, 1);
        due("4 of 8 with 0, 5 with 2", 0, byOne.bestToName());
        due("12 of 20 with 0, 16 with 1 and 2", 0, mostOf(0, 1).bestToName());
        due("12 of 20 with 1, 16 with 0 and 2", 1, mostOf(1, 1).bestToName());
        due("12 of 20 with 2, 16 with 0 and 1", 2, mostOf(2, 1).bestToName());
    }

    private static void promise28Smallest() {
        sentence("28: of several the smallest");
        due("all alike", 0, game(2, 1, 0).bestToName());
        due("1 and 2 alike", 1, game(2, 1, 1).bestToName());
        due("0 and 2 alike", 0, game(2, 2, 0, 2, 2).bestToName());
        BorrowedHats two = game(0, 1, 2);
        two.sayAtLeast(0, 1);
        due("1 and 2 alike, fewer than 0", 1, two.bestToName());
    }

    private static void promise28NothingChanged() {
        sentence("28: (nothing is changed)");
        dueNothingChanged("bestToName", (game, p) -> game.bestToName());
    }

    /** Three hats, one of each colour; of one colour there are so many at most. */
    private static BorrowedHats mostOf(int colour, int many) {
        BorrowedHats game = game(0, 1, 2);
        game.sayAtMost(colour, many);
        return game;
    }

    private static void promise29NoPlayer() {
        sentence("29: Throws IndexOutOfBoundsException if there is no such player");
        dueOnlyForPlayers((game, p) -> game.certainIfTold(p));
    }

    private static void promise29IfTold() {
        sentence("29: if only those ways were open in which this one has it");
        for (int n = 1; n <= 5; n++) {
            for (int p = 0; p < n; p++) {
                due("this one of " + n, 1, Games.gameOf(n).certainIfTold(p));
                due("all of " + n, n, gameOfOneWay(n).certainIfTold(p));
            }
        }
        BorrowedHats game = game(0, 1);
        Games.lookAwayFromAll(game);
        game.sayAtMost(2, 0);
        game.sayAtLeast(0, 1);
        game.sayAtLeast(1, 1);
        due("nobody now", 0, game.certainPlayers());
        due("both, if one is told", 2, game.certainIfTold(0));
        due("both, if one is told", 2, game.certainIfTold(1));
        BorrowedHats ruledOut = Games.gameOfOneOne(2, 0);
        due("the certain one told", 1, ruledOut.certainIfTold(0));
        due("the other one told", 2, ruledOut.certainIfTold(1));
    }

    private static void promise29NothingChanged() {
        sentence("29: (nothing is changed)");
        dueNothingChanged("certainIfTold", (any, p) -> any.certainIfTold(p));
    }

    // ---- Promises 30 and 31

    private static void promise30NoPlayers() {
        sentence("30: 0 without any");
        due("without players", 0.0, game().meanPossible());
    }

    private static void promise30Returns() {
        sentence("30: Returns the mean number of ways that players hold possible");
        for (int n = 1; n <= 5; n++) {
            due("the fewest", 1.0, gameOfOneWay(n).meanPossible());
            due("seeing all", 3.0, Games.gameOf(n).meanPossible());
            BorrowedHats away = Games.gameOf(n);
            Games.lookAwayFromAll(away);
            due("the most", (double) WAYS[n], away.meanPossible());
        }
        BorrowedHats one = Games.gameOf(5);
        one.turnAway(4, 0);
        due("3, 3, 3, 3 and 9", 21.0 / 5.0, one.meanPossible());
        BorrowedHats three = Games.gameOf(3);
        three.turnAway(0, 1);
        three.sayAtMost(2, 0);
        due("4, 2 and 2", 8.0 / 3.0, three.meanPossible());
    }

    private static List<Integer> numbersOf(BorrowedHats game) {
        List<Integer> numbers = new ArrayList<>(List.of(game.players(), game.turnsTaken(),
                game.silentTurns(), game.playerInTurn(), game.openWays(), game.certainPlayers(),
                game.bestToName(), game.players() == 0 ? 0 : game.openAfterTurn()));
        for (int p = 0; p < game.players(); p++) {
            numbers.addAll(List.of(game.hatOf(p), game.possibleWays(p), one(game.isCertain(p)),
                    one(game.isKnownToAll(p)), game.certainIfTold(p)));
            for (int q = 0; q < game.players(); q++) {
                numbers.addAll(List.of(one(game.sees(p, q)), one(game.knowsHatOf(p, q)),
                        one(game.knowsCertain(p, q))));
            }
        }
        return numbers;
    }

    private static int one(boolean isSo) {
        return isSo ? 1 : 0;
    }

    /** Without any wrapping around: that is done once, at the end. */
    private static BigInteger unwrapped(BorrowedHats game) {
        BigInteger d = BigInteger.valueOf(2053);
        for (int x : numbersOf(game)) {
            d = d.multiply(BigInteger.valueOf(31)).add(BigInteger.valueOf(x));
        }
        return d;
    }

    private static void promise31NoPlayers() {
        sentence("31: openAfterTurn() (0 without players)");
        long nobody = 2053;
        for (int x : new int[] {0, 0, 0, -1, 1, 0, -1, 0}) {
            nobody = nobody * 31 + x;
        }
        due("without players", nobody, game().digest());
    }

    private static void promise31WrapsAround() {
        sentence("31: which wraps around as a 64-bit integer");
        due("eight numbers stay below", true, unwrapped(game()).bitLength() < 64);
        for (int n = 1; n <= 5; n++) {
            BorrowedHats game = Games.gameOf(n);
            due(n + " players go beyond", true, unwrapped(game).bitLength() > 64);
            due("digest of " + n, unwrapped(game).longValue(), game.digest());
        }
    }

    private static void promise31Counts1Or0() {
        sentence("31: whether something is so counts 1 or 0");
        for (int turns = 0; turns <= 6; turns++) {
            BorrowedHats game = behindTurns(Games.gameOfOneOne(5, 2), turns);
            game.turnAway(4, 1);
            due("digest behind " + turns, unwrapped(game).longValue(), game.digest());
        }
        due("digest of one way", unwrapped(gameOfOneWay(5)).longValue(),
                gameOfOneWay(5).digest());
    }

    private static void promise31NothingChanged() {
        sentence("31: (what is asked changes nothing)");
        dueNothingChanged("digest", (game, p) -> game.digest());
    }

    public static void main(String[] args) {
        CHECKS.run(EdgesOfAnswersTest::promise9);
        CHECKS.run(EdgesOfAnswersTest::promise10);
        CHECKS.run(EdgesOfAnswersTest::promise11);
        CHECKS.run(EdgesOfAnswersTest::promise12);
        CHECKS.run(EdgesOfAnswersTest::promise13NoPlayer);
        CHECKS.run(EdgesOfAnswersTest::promise13Returns);
        CHECKS.run(EdgesOfAnswersTest::promise14NoPlayer);
        CHECKS.run(EdgesOfAnswersTest::promise14Returns);
        CHECKS.run(EdgesOfAnswersTest::promise15NoColour);
        CHECKS.run(EdgesOfAnswersTest::promise15Returns);
        CHECKS.run(EdgesOfAnswersTest::promise16);
        CHECKS.run(EdgesOfAnswersTest::promise17NoPlayer);
        CHECKS.run(EdgesOfAnswersTest::promise17NoColour);
        CHECKS.run(EdgesOfAnswersTest::promise17Returns);
        CHECKS.run(EdgesOfAnswersTest::promise18NoPlayer);
        CHECKS.run(EdgesOfAnswersTest::promise18Returns);
        CHECKS.run(EdgesOfAnswersTest::promise19NoPlayer);
        CHECKS.run(EdgesOfAnswersTest::promise19Returns);
        CHECKS.run(EdgesOfAnswersTest::promise20NoPlayer);
        CHECKS.run(EdgesOfAnswersTest::promise20NoColour);
        CHECKS.run(EdgesOfAnswersTest::promise20MayBeTheSame);
        CHECKS.run(EdgesOfAnswersTest::promise21NoPlayer);
        CHECKS.run(EdgesOfAnswersTest::promise21Returns);
        CHECKS.run(EdgesOfAnswersTest::promise22NoPlayer);
        CHECKS.run(EdgesOfAnswersTest::promise22Same);
        CHECKS.run(EdgesOfAnswersTest::promise23NoPlayer);
        CHECKS.run(EdgesOfAnswersTest::promise23Would);
        CHECKS.run(EdgesOfAnswersTest::promise24);
        CHECKS.run(EdgesOfAnswersTest::promise25NoPlayers);
        CHECKS.run(EdgesOfAnswersTest::promise25Returns);
        CHECKS.run(EdgesOfAnswersTest::promise25NothingChanged);
        CHECKS.run(EdgesOfAnswersTest::promise26NoPlayer);
        CHECKS.run(EdgesOfAnswersTest::promise26Returns);
        CHECKS.run(EdgesOfAnswersTest::promise26AtMost40);
        CHECKS.run(EdgesOfAnswersTest::promise26NotByThen);
        CHECKS.run(EdgesOfAnswersTest::promise26NothingChanged);
        CHECKS.run(EdgesOfAnswersTest::promise27NoPlayers);
        CHECKS.run(EdgesOfAnswersTest::promise27Returns);
        CHECKS.run(EdgesOfAnswersTest::promise27AtMost40);
        CHECKS.run(EdgesOfAnswersTest::promise27NotByThen);
        CHECKS.run(EdgesOfAnswersTest::promise27NothingChanged);
        CHECKS.run(EdgesOfAnswersTest::promise28NoPlayers);
        CHECKS.run(EdgesOfAnswersTest::promise28SomebodyHas);
        CHECKS.run(EdgesOfAnswersTest::promise28Fewest);
        CHECKS.run(EdgesOfAnswersTest::promise28Smallest);
        CHECKS.run(EdgesOfAnswersTest::promise28NothingChanged);
        CHECKS.run(EdgesOfAnswersTest::promise29NoPlayer);
        CHECKS.run(EdgesOfAnswersTest::promise29IfTold);
        CHECKS.run(EdgesOfAnswersTest::promise29NothingChanged);
        CHECKS.run(EdgesOfAnswersTest::promise30NoPlayers);
        CHECKS.run(EdgesOfAnswersTest::promise30Returns);
        CHECKS.run(EdgesOfAnswersTest::promise31NoPlayers);
        CHECKS.run(EdgesOfAnswersTest::promise31WrapsAround);
        CHECKS.run(EdgesOfAnswersTest::promise31Counts1Or0);
        CHECKS.run(EdgesOfAnswersTest::promise31NothingChanged);
        CHECKS.end("EdgesOfAnswersTest");
    }
}
