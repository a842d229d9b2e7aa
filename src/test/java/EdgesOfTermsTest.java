/** The edges that the document names ahead of its promises, each sentence by itself. */
public final class EdgesOfTermsTest {
    private static final Class<IndexOutOfBoundsException> INDEX = IndexOutOfBoundsException.class;
    private static final Class<IllegalStateException> STATE = IllegalStateException.class;

    private static final int[] POWERS_OF_3 = {1, 3, 9, 27, 81, 243};

    private static final Checks CHECKS = new Checks();

    private static void sentence(String text) {
        CHECKS.sentence(text);
    }

    private static void due(String what, Object want, Object got) {
        CHECKS.due(what, want, got);
    }

    private static BorrowedHats game(int... colours) {
        return Games.game(colours);
    }

    // ---- What it is

    /** Five players that all were silent in 506 turns: 511 calls. */
    private static BorrowedHats behind511Calls() {
        BorrowedHats game = game(1, 0, 2, 0, 2);
        for (int call = 6; call <= 511; call++) {
            game.takeTurn();
        }
        return game;
    }

    private static void usedFor512Calls() {
        sentence("An object is used for at most 512 calls after it has been made");
        due("the first call", 0, new BorrowedHats().addPlayer(2));
        due("call 512: takeTurn", -1, behind511Calls().takeTurn());
        due("call 512: turnsTaken", 506, behind511Calls().turnsTaken());
        due("call 512: silentTurns", 506, behind511Calls().silentTurns());
        due("call 512: playerInTurn", 1, behind511Calls().playerInTurn());
        due("call 512: openWays", 243, behind511Calls().openWays());
        due("call 512: openAfterTurn", 243, behind511Calls().openAfterTurn());
        due("call 512: sayAtLeast", 211, behind511Calls().sayAtLeast(1, 1));
        due("call 512: sayAtMost", 112, behind511Calls().sayAtMost(1, 1));
        due("call 512: borrow", 2, behind511Calls().borrow(0, 4));
        due("call 512: turnAway", false, behind511Calls().turnAway(4, 0));
        due("call 512: begin", 243, behind511Calls().begin());
        due("call 512: turnsUntilAllCertain", -1, behind511Calls().turnsUntilAllCertain());
        due("call 512: meanPossible", 3.0, behind511Calls().meanPossible());
        CHECKS.dueThrow("call 512: addPlayer", STATE, () -> behind511Calls().addPlayer(0));
    }

    // ---- Players

    private static void atMostFiveNumberedFrom0() {
        sentence("At most 5, numbered from 0");
        BorrowedHats game = game();
        for (int number = 0; number < 5; number++) {
            due("the number of a new one", number, game.addPlayer(Games.COLOURS[number]));
            due("players", number + 1, game.players());
        }
        CHECKS.dueRefused("a sixth one", STATE, game, () -> game.addPlayer(1));
        due("players then", 5, game.players());
        due("the hat of the last one", 0, game.hatOf(4));
        CHECKS.dueRefused("the hat of a sixth one", INDEX, game, () -> game.hatOf(5));
    }

    private static void colours0To2() {
        sentence("each has a hat of a colour, 0 to 2");
        for (int colour = 0; colour <= 2; colour++) {
            due("the hat of the first one", colour, game(colour, 1, 1, 1, 1).hatOf(0));
            due("the hat of the last one", colour, game(1, 1, 1, 1, colour).hatOf(4));
            due("a third of the ways", 81, game(1, 1, 1, 1, colour).openWaysWith(4, colour));
        }
    }

    private static void eachSeesAllOthersAtFirst() {
        sentence("Each sees the hats of all others, at first");
        for (int n = 0; n <= 5; n++) {
            BorrowedHats game = Games.gameOf(n);
            for (int p = 0; p < n; p++) {
                due("the ways left to " + p + " of " + n, 3, game.possibleWays(p));
                for (int q = 0; q < n; q++) {
                    due(p + " sees " + q + " of " + n, p != q, game.sees(p, q));
                }
            }
        }
    }

    private static void oneCanLookAway() {
        sentence("one can look away from another one, so that this one's hat is not seen");
        for (int p = 0; p < 5; p++) {
            for (int q = 0; q < 5; q++) {
                if (p != q) {
                    dueAloneLookedAwayFrom(p, q);
                }
            }
        }
    }

    private static void dueAloneLookedAwayFrom(int away, int from) {
        BorrowedHats game = Games.gameOf(5);
        game.turnAway(away, from);
        for (int p = 0; p < 5; p++) {
            due("the ways left to " + p, p == away ? 9 : 3, game.possibleWays(p));
            for (int q = 0; q < 5; q++) {
                boolean seen = p != q && !(p == away && q == from);
                due(p + " sees " + q + ", " + away + " away from " + from, seen, game.sees(p, q));
            }
        }
        for (int colour = 0; colour <= 2; colour++) {
            due("what is not seen may be " + colour, true,
                    game.holdsPossible(away, from, colour));
        }
    }

    private static void nobodySeesTheOwnHat() {
        sentence("Nobody sees the own hat");
        for (int n = 1; n <= 5; n++) {
            BorrowedHats game = Games.gameOf(n);
            for (int p = 0; p < n; p++) {
                due(p + " of " + n + " sees the own hat", false, game.sees(p, p));
                due(p + " of " + n + " knows it", false, game.knowsHatOf(p, p));
            }
            Games.lookAwayFromAll(game);
            due("looking away from all others", false, game.sees(n - 1, n - 1));
        }
    }

    private static void everybodyKnowsWhoSeesWhom() {
        sentence("Everybody knows who sees whom");
        BorrowedHats seen = game(1, 1);
        seen.sayAtLeast(1, 1);
        due("silence of one that sees tells something", 3, seen.openAfterTurn());
        due("and makes the other one certain", 1, seen.turnsUntilCertain(1));
        BorrowedHats away = game(1, 1);
        away.sayAtLeast(1, 1);
        away.turnAway(0, 1);
        due("silence of one that looks away tells nothing", 5, away.openAfterTurn());
        due("and makes nobody certain", -1, away.turnsUntilCertain(1));
        due("the second one knows that the first one can't be certain", "false false",
                away.knowsCertain(1, 0) + " " + away.knowsCertain(0, 0));
    }

    // ---- Ways

    private static void aWayIsAColourForEach() {
        sentence("A way is a colour for each player");
        for (int n = 0; n <= 5; n++) {
            due("the ways of " + n, POWERS_OF_3[n], Games.gameOf(n).openWays());
        }
    }

    private static void allAreOpenAsTheGameBegins() {
        sentence("Some ways are open, known as open to everybody: all of them, as the game begins");
        for (int n = 1; n <= 5; n++) {
            BorrowedHats game = Games.gameOf(n);
            dueAllOpen("at first", game, n);
            game.sayAtLeast(1, 1);
            game.takeTurn();
            game.begin();
            dueAllOpen("as another game begins", game, n);
        }
    }

    private static void dueAllOpen(String when, BorrowedHats game, int n) {
        due("the ways of " + n + " " + when, POWERS_OF_3[n], game.openWays());
        for (int p = 0; p < n; p++) {
            for (int colour = 0; colour <= 2; colour++) {
                due("those with " + colour + " of " + p + " " + when, POWERS_OF_3[n - 1],
                        game.openWaysWith(p, colour));
            }
        }
    }

    /** One that sees all others holds the own colour possible just if the way of now is open. */
    private static void dueOpenNow(String when, BorrowedHats game) {
        for (int p = 0; p < game.players(); p++) {
            due("open for " + p + " " + when, true, game.holdsPossible(p, p, game.hatOf(p)));
        }
    }

    private static void theWayOfNowIsAlwaysOpen() {
        sentence("the way of now is always one of them");
        for (int n = 1; n <= 5; n++) {
            BorrowedHats game = Games.gameOf(n);
            dueOpenNow("at first", game);
            for (int colour = 0; colour <= 2; colour++) {
                for (int turn = 0; turn <= n; turn++) {
                    game.takeTurn();
                    dueOpenNow("behind a turn", game);
                }
                game.sayAtLeast(colour, game.hatsOf(colour));
                dueOpenNow("behind at least", game);
                if (n > 1) {
                    game.borrow(colour % n, (colour + 1) % n);
                    dueOpenNow("behind a borrowing", game);
                }
                game.sayAtMost(colour, game.hatsOf(colour));
                dueOpenNow("behind at most", game);
            }
        }
    }

    // ---- Holding possible, certain

    private static void possibleAreThoseThatAgreeWithTheSeen() {
        sentence("A player holds those open ways possible that agree with the hats that this"
                + " player sees");
        BorrowedHats game = game(2, 1, 0, 1, 2);
        for (int from = 1; from <= 4; from++) {
            due("seeing all but " + (from - 1), POWERS_OF_3[from], game.possibleWays(0));
            game.turnAway(0, from);
        }
        due("seeing nobody", 243, game.possibleWays(0));
        game.sayAtLeast(2, 2);
        due("the open ones are all possible", 131, game.possibleWays(0));
        due("one that sees two 2 holds all own colours possible", 3, game.possibleWays(1));
        due("one that sees one 2 only the own 2", 1, game.possibleWays(4));
        due("and no other colour", false, game.holdsPossible(4, 4, 0));
    }

    private static void wouldHoldPossible() {
        sentence("In the same manner a player would hold ways possible, if another way was that"
                + " of now");
        BorrowedHats game = game(1, 1);
        game.sayAtLeast(1, 1);
        due("ahead of a silent turn", 5, game.openWays());
        game.takeTurn();
        due("not (1, 0) and (1, 2), where the first one would be certain", 3, game.openWays());
        due("the second one has 1 in all", 3, game.openWaysWith(1, 1));
        BorrowedHats away = game(1, 1, 1);
        away.turnAway(0, 1);
        away.sayAtLeast(1, 2);
        due("two of three at least", 7, away.openWays());
        away.takeTurn();
        due("not (1, 1, 0), (1, 1, 2): the first one would see no 1", 5, away.openWays());
        due("the third one has 1 in all", 5, away.openWaysWith(2, 1));
    }

    private static void certainIsOfOneColour() {
        sentence("A player is certain, if the own hat has the same colour in all ways that this"
                + " player holds possible");
        BorrowedHats game = game(1, 1);
        due("three ways, three colours", false, game.isCertain(0));
        game.sayAtMost(2, 0);
        due("two ways, two colours", "2 false", game.possibleWays(0) + " " + game.isCertain(0));
        game.sayAtLeast(1, 2);
        due("one way", "1 true", game.possibleWays(0) + " " + game.isCertain(0));
        BorrowedHats told = Games.gameOfTwoWays();
        told.turnAway(0, 1);
        due("two ways, one colour", "2 true", told.possibleWays(0) + " " + told.isCertain(0));
    }

    private static void wouldBeCertain() {
        sentence("in the same manner a player would be certain in some open way");
        BorrowedHats game = game(1, 0);
        game.sayAtLeast(1, 1);
        due("certain, but would not be in (1, 1) or (2, 1)", "true false",
                game.isCertain(0) + " " + game.knowsCertain(1, 0));
        due("would be certain in (1, 0) and (1, 2)", 2, game.openAfterTurn());
    }

    // ---- A turn

    private static void turnsGoRound() {
        sentence("A turn is that of the player whose turn it is, from the player 0 on, and round"
                + " again");
        for (int n = 1; n <= 5; n++) {
            BorrowedHats game = Games.gameOf(n);
            for (int turn = 0; turn < 2 * n + 1; turn++) {
                due("turn " + turn + " of " + n, turn % n, game.playerInTurn());
                game.takeTurn();
            }
        }
        for (int withOne = 0; withOne < 5; withOne++) {
            BorrowedHats game = Games.gameOfOneOne(5, withOne);
            for (int turn = 0; turn < 15; turn++) {
                due("turn " + turn + ", " + withOne + " has 1", turn % 5 == withOne ? 1 : -1,
                        game.takeTurn());
            }
        }
    }

    private static void aColourIsTold() {
        sentence("only those ways stay open in which this player would be certain, and has this"
                + " colour");
        BorrowedHats certain = game(1, 0);
        certain.sayAtLeast(1, 1);
        due("told", 1, certain.takeTurn());
        due("(1, 0) and (1, 2)", 2, certain.openWays());
        due("not (1, 1), where the first one would not be certain", 0,
                certain.openWaysWith(1, 1));
        BorrowedHats colour = game(1, 0);
        colour.sayAtLeast(1, 1);
        colour.sayAtLeast(0, 1);
        due("told again", 1, colour.takeTurn());
        due("(1, 0), and not (0, 1), where 0 would be told", 1, colour.openWays());
    }

    private static void orIsSilent() {
        sentence("Otherwise this one is silent: only those ways stay open in which this player"
                + " would not be certain");
        BorrowedHats game = game(2, 2);
        game.sayAtLeast(2, 1);
        due("silence", -1, game.takeTurn());
        due("(0, 2), (1, 2), (2, 2)", 3, game.openWays());
        due("none is left with another hat of the second one", 3, game.openWaysWith(1, 2));
        BorrowedHats nothing = Games.gameOf(5);
        due("silence at first", -1, nothing.takeTurn());
        due("rules nothing out", 243, nothing.openWays());
    }

    private static void byTheWaysAheadOfTheTurn() {
        sentence("All of this by the ways that were open ahead of the turn");
        BorrowedHats game = game(1, 0, 0);
        due("one 1 at least", 19, game.sayAtLeast(1, 1));
        due("told", 1, game.takeTurn());
        due("not those where 1 is certain but by the telling", 4, game.openWays());
        BorrowedHats silent = game(0, 0);
        silent.sayAtLeast(0, 1);
        due("silence", -1, silent.takeTurn());
        due("(0, 0), (1, 0), (2, 0)", 3, silent.openWays());
        due("told by the second one, by what was open then", 0, silent.takeTurn());
        due("nothing more is ruled out", 3, silent.openWays());
    }

    // ---- What is said, borrowing

    private static void whatIsSaidHasToBeTrue() {
        sentence("It has to be true; only those ways stay open in which it is");
        int[] openAtLeast = {243, 211, 131, 51, 11, 1};
        int[] openAtMost = {32, 112, 192, 232, 242, 243};
        for (int hats = 0; hats <= 5; hats++) {
            for (int many = 0; many <= 5; many++) {
                dueSaid(hats, many, many <= hats ? openAtLeast[many] : null,
                        many >= hats ? openAtMost[many] : null);
            }
        }
    }

    private static void dueSaid(int hats, int many, Integer atLeast, Integer atMost) {
        int[] colours = {0, 0, 0, 0, 0};
        java.util.Arrays.fill(colours, 0, hats, 2);
        String untrue = "throws.IllegalStateException";
        due("at least " + many + " of " + hats, atLeast == null ? untrue : "" + atLeast,
                Checks.answer(() -> game(colours).sayAtLeast(2, many)));
        due("at most " + many + " of " + hats, atMost == null ? untrue : "" + atMost,
                Checks.answer(() -> game(colours).sayAtMost(2, many)));
    }

    private static void borrowingExchangesTheWays() {
        sentence("a way is open behind it, if it was open ahead of it with the colours of both"
                + " exchanged");
        BorrowedHats game = Games.gameOfTwoWays();
        due("(1, 0), (1, 2)", "0 2 0", waysWith(game, 0));
        game.borrow(0, 1);
        due("(0, 1), (2, 1)", "1 0 1", waysWith(game, 0));
        due("(0, 1), (2, 1)", "0 2 0", waysWith(game, 1));
        game.borrow(0, 1);
        due("as it was", "0 2 0", waysWith(game, 0));
        BorrowedHats five = Games.gameOfOneOne(5, 0);
        five.takeTurn();
        five.borrow(0, 4);
        due("the last of five", "0 16 0", waysWith(five, 4));
        due("the first of five", "8 0 8", waysWith(five, 0));
        five.borrow(4, 2);
        due("the one in the middle", "0 16 0", waysWith(five, 2));
        due("the last of five again", "8 0 8", waysWith(five, 4));
    }

    private static String waysWith(BorrowedHats game, int player) {
        return game.openWaysWith(player, 0) + " " + game.openWaysWith(player, 1) + " "
                + game.openWaysWith(player, 2);
    }

    private static void everybodySeesABorrowing() {
        sentence("Two players exchange their hats, and everybody sees that they do");
        BorrowedHats game = Games.gameOfOneOne(3, 0);
        game.turnAway(2, 0);
        game.turnAway(2, 1);
        game.takeTurn();
        // Player 2 sees neither hat: what is known of them is known from the turn that was told.
        due("known ahead", "true false", game.knowsHatOf(2, 0) + " " + game.knowsHatOf(2, 1));
        game.borrow(0, 1);
        due("known behind it", "false true",
                game.knowsHatOf(2, 0) + " " + game.knowsHatOf(2, 1));
        due("who looks away stays", "false false", game.sees(2, 0) + " " + game.sees(2, 1));
        due("who is seen stays", "true true", game.sees(0, 1) + " " + game.sees(1, 0));
        due("nobody sees the own hat", "false false", game.sees(0, 0) + " " + game.sees(1, 1));
    }

    public static void main(String[] args) {
        CHECKS.run(EdgesOfTermsTest::usedFor512Calls);
        CHECKS.run(EdgesOfTermsTest::atMostFiveNumberedFrom0);
        CHECKS.run(EdgesOfTermsTest::colours0To2);
        CHECKS.run(EdgesOfTermsTest::eachSeesAllOthersAtFirst);
        CHECKS.run(EdgesOfTermsTest::oneCanLookAway);
        CHECKS.run(EdgesOfTermsTest::nobodySeesTheOwnHat);
        CHECKS.run(EdgesOfTermsTest::everybodyKnowsWhoSeesWhom);
        CHECKS.run(EdgesOfTermsTest::aWayIsAColourForEach);
        CHECKS.run(EdgesOfTermsTest::allAreOpenAsTheGameBegins);
        CHECKS.run(EdgesOfTermsTest::theWayOfNowIsAlwaysOpen);
        CHECKS.run(EdgesOfTermsTest::possibleAreThoseThatAgreeWithTheSeen);
        CHECKS.run(EdgesOfTermsTest::wouldHoldPossible);
        CHECKS.run(EdgesOfTermsTest::certainIsOfOneColour);
        CHECKS.run(EdgesOfTermsTest::wouldBeCertain);
        CHECKS.run(EdgesOfTermsTest::turnsGoRound);
        CHECKS.run(EdgesOfTermsTest::aColourIsTold);
        CHECKS.run(EdgesOfTermsTest::orIsSilent);
        CHECKS.run(EdgesOfTermsTest::byTheWaysAheadOfTheTurn);
        CHECKS.run(EdgesOfTermsTest::whatIsSaidHasToBeTrue);
        CHECKS.run(EdgesOfTermsTest::borrowingExchangesTheWays);
        CHECKS.run(EdgesOfTermsTest::everybodySeesABorrowing);
        CHECKS.end("EdgesOfTermsTest");
    }
}
