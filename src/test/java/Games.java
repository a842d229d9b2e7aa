import java.util.StringJoiner;

/** Games to begin a test with, and all that can be asked of one, so that two can be compared. */
final class Games {
    static final int[] COLOURS = {1, 0, 1, 2, 0};

    private Games() {
    }

    static BorrowedHats game(int... colours) {
        BorrowedHats game = new BorrowedHats();
        for (int colour : colours) {
            game.addPlayer(colour);
        }
        return game;
    }

    static BorrowedHats gameOf(int players) {
        return game(java.util.Arrays.copyOf(COLOURS, players));
    }

    /** One player alone has the colour 1, all others 0, and all heard that somebody has 1. */
    static BorrowedHats gameOfOneOne(int players, int withOne) {
        int[] colours = new int[players];
        colours[withOne] = 1;
        BorrowedHats game = game(colours);
        game.sayAtLeast(1, 1);
        return game;
    }

    /** Open are (1, 0) and (1, 2): two players with 1 and 0, one 1 at least, a turn told. */
    static BorrowedHats gameOfTwoWays() {
        BorrowedHats game = game(1, 0);
        game.sayAtLeast(1, 1);
        game.takeTurn();
        return game;
    }

    /** Found by a search for games that last: the players wait for 12, 43, 39, 40, 37 turns. */
    static BorrowedHats gameOfLongWaits() {
        BorrowedHats game = game(0, 1, 0, 2, 2);
        int[][] away = {{0, 4}, {0, 1}, {2, 3}, {4, 0}, {4, 1}, {1, 2}};
        game.sayAtLeast(0, 2);
        for (int[] pair : away) {
            game.turnAway(pair[0], pair[1]);
        }
        game.sayAtMost(0, 3);
        game.sayAtMost(1, 1);
        game.borrow(3, 1);
        game.turnAway(3, 4);
        return game;
    }

    static void lookAwayFromAll(BorrowedHats game) {
        for (int p = 0; p < game.players(); p++) {
            for (int q = 0; q < game.players(); q++) {
                if (p != q && game.sees(p, q)) {
                    game.turnAway(p, q);
                }
            }
        }
    }

    /** A question that throws is told by its exception: it is for its own test to fail then. */
    static String asked(BorrowedHats game) {
        Answers all = new Answers();
        all.add(game::players).add(game::turnsTaken).add(game::silentTurns);
        all.add(game::playerInTurn).add(game::openWays).add(game::certainPlayers);
        all.add(game::openAfterTurn).add(game::turnsUntilAllCertain).add(game::bestToName);
        all.add(game::meanPossible).add(game::digest);
        for (int c = 0; c < 3; c++) {
            int colour = c;
            all.add(() -> game.hatsOf(colour));
        }
        for (int p = 0; p < game.players(); p++) {
            addAskedOf(all, game, p);
        }
        return all.toString();
    }

    private static void addAskedOf(Answers all, BorrowedHats game, int p) {
        all.add(() -> game.hatOf(p)).add(() -> game.isKnownToAll(p));
        all.add(() -> game.possibleWays(p)).add(() -> game.isCertain(p));
        all.add(() -> game.turnsUntilCertain(p)).add(() -> game.certainIfTold(p));
        for (int c = 0; c < 3; c++) {
            int colour = c;
            all.add(() -> game.openWaysWith(p, colour));
        }
        for (int other = 0; other < game.players(); other++) {
            int q = other;
            all.add(() -> game.sees(p, q)).add(() -> game.knowsHatOf(p, q));
            all.add(() -> game.knowsCertain(p, q));
            for (int c = 0; c < 3; c++) {
                int colour = c;
                all.add(() -> game.holdsPossible(p, q, colour));
            }
        }
    }

    /**
     * What a game answers to some more calls that change it. It tells apart what no question
     * tells: whether a player can be added now, and which ways are open in all.
     */
    static String future(BorrowedHats game) {
        Answers all = new Answers();
        all.add(() -> game.addPlayer(2));
        for (int turn = 0; turn < 3; turn++) {
            all.add(game::takeTurn).add(() -> asked(game));
            all.add(() -> game.borrow(0, game.players() - 1)).add(() -> asked(game));
        }
        all.add(() -> game.turnAway(1, 0)).add(() -> asked(game));
        all.add(game::begin).add(() -> game.addPlayer(0)).add(() -> asked(game));
        return all.toString();
    }

    /** Answers in a row. */
    private static final class Answers {
        private final StringJoiner all = new StringJoiner(" ");

        Answers add(Checks.Call call) {
            all.add(Checks.answer(call));
            return this;
        }

        @Override
        public String toString() {
            return all.toString();
        }
    }
}
