/** The calls of README.md, row for row, with the answers that stand there. */
public final class ReadmeTest {
    private static final Checks CHECKS = new Checks();

    private static void due(String call, Object want, Object got) {
        CHECKS.due(call, want, got);
    }

    private static void aGameOfTwo(BorrowedHats game) {
        due("game.addPlayer(1)", 0, game.addPlayer(1));
        due("game.addPlayer(0)", 1, game.addPlayer(0));
        due("game.openWays()", 9, game.openWays());
        due("game.sayAtLeast(1, 1)", 5, game.sayAtLeast(1, 1));
        due("game.isCertain(0)", true, game.isCertain(0));
        due("game.knowsCertain(1, 0)", false, game.knowsCertain(1, 0));
        due("game.takeTurn()", 1, game.takeTurn());
        due("game.openWays()", 2, game.openWays());
        due("game.takeTurn()", -1, game.takeTurn());
        due("game.borrow(0, 1)", 0, game.borrow(0, 1));
        due("game.turnAway(0, 1)", false, game.turnAway(0, 1));
        due("game.knowsHatOf(0, 1)", true, game.knowsHatOf(0, 1));
        due("game.begin()", 9, game.begin());
        due("game.knowsHatOf(0, 1)", false, game.knowsHatOf(0, 1));
    }

    private static void refusedCalls(BorrowedHats game) {
        CHECKS.dueRefused("game.hatOf(2)", IndexOutOfBoundsException.class, game,
                () -> game.hatOf(2));
        CHECKS.dueRefused("game.borrow(1, 1)", IllegalArgumentException.class, game,
                () -> game.borrow(1, 1));
        CHECKS.dueRefused("game.sayAtLeast(2, 1)", IllegalStateException.class, game,
                () -> game.sayAtLeast(2, 1));
    }

    public static void main(String[] args) {
        BorrowedHats game = new BorrowedHats();
        CHECKS.run(() -> aGameOfTwo(game));
        CHECKS.run(() -> refusedCalls(game));
        CHECKS.end("ReadmeTest");
    }
}
