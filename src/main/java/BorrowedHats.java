/** A game of borrowed hats: who holds what possible, who is certain, and what is said aloud. */
public final class BorrowedHats {
    private static final int COLOURS = 3;
    private static final int MOST_PLAYERS = 5;
    private static final int MOST_WAYS = 243;
    private static final int MOST_TURNS_AHEAD = 40;

    // A way is one number with two bits for each player's colour, the player 0 lowest: so what
    // a player sees of a way is a mask away, and no divisor is needed anywhere.
    private static final int BITS_OF_HAT = 2;
    private static final int ONE_HAT = 3;
    private static final int ALL_HATS = 1023;

    private static final int NOBODY = -1;
    private static final int NO_COLOUR = -1;
    private static final int NOT_BY_THEN = -1;

    private static final long DIGEST_START = 2053L;
    private static final long DIGEST_FACTOR = 31L;

    private final Ways open = new Ways();
    private final Ways trial = new Ways();
    private final int[] seenHats = new int[MOST_PLAYERS];
    private final int[] ownColoursByView = new int[ALL_HATS + 1];
    private int playerCount = 0;
    private int wayOfNow = 0;
    private int turn = 0;
    private int turnCount = 0;
    private int silentCount = 0;
    private boolean underWay = false;

    /** Some ways; in which order it holds them means nothing. */
    private static final class Ways {
        private final int[] held = new int[MOST_WAYS];
        private int count = 0;

        int count() {
            return count;
        }

        int at(int place) {
            return place >= 0 && place < held.length ? held[place] : 0;
        }

        void add(int way) {
            if (count >= 0 && count < held.length) {
                held[count] = way;
                count++;
            }
        }

        void clear() {
            count = 0;
        }

        void put(int place, int way) {
            if (place >= 0 && place < held.length) {
                held[place] = way;
            }
        }

        void copyFrom(Ways other) {
            clear();
            for (int i = 0; i < other.count(); i++) {
                add(other.at(i));
            }
        }
    }

    public BorrowedHats() {
        // Without players there is one way, that of no hats.
        open.add(0);
    }

    // ---- players

    public int addPlayer(int colour) throws IndexOutOfBoundsException, IllegalStateException {
        requireColour(colour);
        if (playerCount >= MOST_PLAYERS || underWay) {
            throw new IllegalStateException("no player can be added now");
        }
        int player = playerCount;
        playerCount++;
        wayOfNow = wayOfNow | (colour << shiftOf(player));
        lookAtEachOther(player);
        openColoursOf(player);
        return player;
    }

    public boolean turnAway(int player, int other)
            throws IndexOutOfBoundsException, IllegalArgumentException {
        requireTwoPlayers(player, other);
        setSeenHatsOf(player, seenHatsOf(player) ^ hatMask(other));
        return seesHat(player, other);
    }

    public int borrow(int player, int other)
            throws IndexOutOfBoundsException, IllegalArgumentException {
        requireTwoPlayers(player, other);
        underWay = true;
        wayOfNow = exchanged(wayOfNow, player, other);
        for (int i = 0; i < open.count(); i++) {
            open.put(i, exchanged(open.at(i), player, other));
        }
        return colourIn(wayOfNow, player);
    }

    // ---- turns and what is said

    public int takeTurn() throws IllegalStateException {
        requireSomePlayer();
        int player = turn;
        boolean isTold = passTurn(open, player);
        underWay = true;
        turn = playerAfter(player);
        turnCount++;
        if (isTold) {
            return colourIn(wayOfNow, player);
        }
        silentCount++;
        return NO_COLOUR;
    }

    public int sayAtLeast(int colour, int many)
            throws IndexOutOfBoundsException, IllegalArgumentException, IllegalStateException {
        requireColour(colour);
        requireMany(many);
        return sayBetween(colour, many, MOST_PLAYERS);
    }

    public int sayAtMost(int colour, int many)
            throws IndexOutOfBoundsException, IllegalArgumentException, IllegalStateException {
        requireColour(colour);
        requireMany(many);
        return sayBetween(colour, 0, many);
    }

    public int begin() {
        open.clear();
        open.add(0);
        for (int player = 0; player < playerCount; player++) {
            openColoursOf(player);
        }
        turn = 0;
        turnCount = 0;
        silentCount = 0;
        underWay = false;
        return open.count();
    }

    // ---- what there is

    public int players() {
        return playerCount;
    }

    public int turnsTaken() {
        return turnCount;
    }

    public int silentTurns() {
        return silentCount;
    }

    public int playerInTurn() {
        return playerCount > 0 ? turn : NOBODY;
    }

    public int hatOf(int player) throws IndexOutOfBoundsException {
        requirePlayer(player);
        return colourIn(wayOfNow, player);
    }

    public boolean sees(int player, int other) throws IndexOutOfBoundsException {
        requirePlayer(player);
        requirePlayer(other);
        return seesHat(player, other);
    }

    public int hatsOf(int colour) throws IndexOutOfBoundsException {
        requireColour(colour);
        return hatsIn(wayOfNow, colour);
    }

    // ---- ways

    public int openWays() {
        return open.count();
    }

    public int openWaysWith(int player, int colour) throws IndexOutOfBoundsException {
        requirePlayer(player);
        requireColour(colour);
        return countWithHat(player, colour);
    }

    public boolean isKnownToAll(int player) throws IndexOutOfBoundsException {
        requirePlayer(player);
        // The way of now is open, so if one colour is in all open ways, it is that of now.
        return countWithHat(player, colourIn(wayOfNow, player)) == open.count();
    }

    // ---- who is certain

    public int possibleWays(int player) throws IndexOutOfBoundsException {
        requirePlayer(player);
        return countPossible(player);
    }

    public boolean holdsPossible(int player, int other, int colour)
            throws IndexOutOfBoundsException {
        requirePlayer(player);
        requirePlayer(other);
        requireColour(colour);
        return (possibleColours(open, player, other) & (1 << colour)) != 0;
    }

    public boolean isCertain(int player) throws IndexOutOfBoundsException {
        requirePlayer(player);
        return isCertainBy(open, player);
    }

    public boolean knowsHatOf(int player, int other) throws IndexOutOfBoundsException {
        requirePlayer(player);
        requirePlayer(other);
        return isOneColour(possibleColours(open, player, other));
    }

    public boolean knowsCertain(int player, int other) throws IndexOutOfBoundsException {
        requirePlayer(player);
        requirePlayer(other);
        noteOwnColours(open, other);
        int seen = seenHatsOf(player);
        for (int i = 0; i < open.count(); i++) {
            int way = open.at(i);
            if (agreesWithNow(way, seen) && !wouldBeCertain(way, other)) {
                return false;
            }
        }
        return true;
    }

    public int certainPlayers() {
        return countCertain(open);
    }

    // ---- what would be

    public int openAfterTurn() throws IllegalStateException {
        requireSomePlayer();
        trial.copyFrom(open);
        passTurn(trial, turn);
        return trial.count();
    }

    public int turnsUntilCertain(int player) throws IndexOutOfBoundsException {
        requirePlayer(player);
        return turnsUntilAreCertain(player, player + 1);
    }

    public int turnsUntilAllCertain() {
        return turnsUntilAreCertain(0, playerCount);
    }

    public int bestToName() {
        int best = NO_COLOUR;
        int fewest = MOST_WAYS + 1;
        for (int colour = 0; colour < COLOURS; colour++) {
            int ways = countNaming(colour);
            if (hatsIn(wayOfNow, colour) > 0 && ways < fewest) {
                best = colour;
                fewest = ways;
            }
        }
        return best;
    }

    public int certainIfTold(int player) throws IndexOutOfBoundsException {
        requirePlayer(player);
        trial.copyFrom(open);
        keepWithHat(trial, player, colourIn(wayOfNow, player));
        return countCertain(trial);
    }

    public double meanPossible() {
        if (playerCount <= 0) {
            return 0.0;
        }
        int sum = 0;
        for (int player = 0; player < playerCount; player++) {
            sum += countPossible(player);
        }
        return (double) sum / (double) playerCount;
    }

    public long digest() {
        long d = DIGEST_START;
        d = digested(d, players());
        d = digested(d, turnsTaken());
        d = digested(d, silentTurns());
        d = digested(d, playerInTurn());
        d = digested(d, openWays());
        d = digested(d, certainPlayers());
        d = digested(d, bestToName());
        d = digested(d, playerCount > 0 ? openAfterTurn() : 0);
        for (int player = 0; player < playerCount; player++) {
            d = digestedPlayer(d, player);
        }
        return d;
    }

    // ---- what a call asks for ahead of all else

    private void requirePlayer(int player) {
        if (player < 0 || player >= playerCount) {
            throw new IndexOutOfBoundsException("no such player");
        }
    }

    private void requireTwoPlayers(int player, int other) {
        requirePlayer(player);
        requirePlayer(other);
        if (player == other) {
            throw new IllegalArgumentException("both players are the same");
        }
    }

    private void requireSomePlayer() {
        if (playerCount <= 0) {
            throw new IllegalStateException("there are no players");
        }
    }

    private static void requireColour(int colour) {
        if (colour < 0 || colour >= COLOURS) {
            throw new IndexOutOfBoundsException("no such colour");
        }
    }

    private static void requireMany(int many) {
        if (many < 0 || many > MOST_PLAYERS) {
            throw new IllegalArgumentException("many is not 0 to 5");
        }
    }

    // ---- hats in one way

    private static int shiftOf(int player) {
        return player * BITS_OF_HAT;
    }

    private static int hatMask(int player) {
        return ONE_HAT << shiftOf(player);
    }

    private static int colourIn(int way, int player) {
        return (way >> (player * BITS_OF_HAT)) & ONE_HAT;
    }

    private static int exchanged(int way, int player, int other) {
        int differing = colourIn(way, player) ^ colourIn(way, other);
        return way ^ (differing << shiftOf(player)) ^ (differing << shiftOf(other));
    }

    private int hatsIn(int way, int colour) {
        int hats = 0;
        for (int player = 0; player < playerCount; player++) {
            if (colourIn(way, player) == colour) {
                hats++;
            }
        }
        return hats;
    }

    // ---- who sees whom

    private int seenHatsOf(int player) {
        return player >= 0 && player < seenHats.length ? seenHats[player] : 0;
    }

    private void setSeenHatsOf(int player, int hats) {
        if (player >= 0 && player < seenHats.length) {
            seenHats[player] = hats;
        }
    }

    private boolean seesHat(int player, int other) {
        return (seenHatsOf(player) & hatMask(other)) != 0;
    }

    private void lookAtEachOther(int newPlayer) {
        int hatsOfOthers = 0;
        for (int player = 0; player < newPlayer; player++) {
            setSeenHatsOf(player, seenHatsOf(player) | hatMask(newPlayer));
            hatsOfOthers = hatsOfOthers | hatMask(player);
        }
        setSeenHatsOf(newPlayer, hatsOfOthers);
    }

    private int viewOf(int way, int player) {
        return way & seenHatsOf(player) & ALL_HATS;
    }

    private boolean agreesWithNow(int way, int hats) {
        return ((way ^ wayOfNow) & hats) == 0;
    }

    // ---- which ways are open

    private void openColoursOf(int newPlayer) {
        // The ways held so far have the colour 0 in the new player's place already.
        int before = open.count();
        for (int colour = 1; colour < COLOURS; colour++) {
            for (int i = 0; i < before; i++) {
                open.add(open.at(i) | (colour << shiftOf(newPlayer)));
            }
        }
    }

    private int sayBetween(int colour, int least, int most) {
        int hats = hatsIn(wayOfNow, colour);
        if (hats < least || hats > most) {
            throw new IllegalStateException("what is said is not true");
        }
        keepWithHats(open, colour, least, most);
        underWay = true;
        return open.count();
    }

    // The functions that keep some ways add them anew in the same rows: a place is read ahead
    // of its being written again, since no more ways are kept than were read.

    private void keepWithHats(Ways ways, int colour, int least, int most) {
        int before = ways.count();
        ways.clear();
        for (int i = 0; i < before; i++) {
            int way = ways.at(i);
            int hats = hatsIn(way, colour);
            if (hats >= least && hats <= most) {
                ways.add(way);
            }
        }
    }

    private static void keepWithHat(Ways ways, int player, int colour) {
        int before = ways.count();
        ways.clear();
        for (int i = 0; i < before; i++) {
            int way = ways.at(i);
            if (colourIn(way, player) == colour) {
                ways.add(way);
            }
        }
    }

    private void keepByCertainty(Ways ways, int player, boolean certain) {
        noteOwnColours(ways, player);
        int before = ways.count();
        ways.clear();
        for (int i = 0; i < before; i++) {
            int way = ways.at(i);
            if (wouldBeCertain(way, player) == certain) {
                ways.add(way);
            }
        }
    }

    private int countWithHat(int player, int colour) {
        int with = 0;
        for (int i = 0; i < open.count(); i++) {
            if (colourIn(open.at(i), player) == colour) {
                with++;
            }
        }
        return with;
    }

    private int countNaming(int colour) {
        int naming = 0;
        for (int i = 0; i < open.count(); i++) {
            if (hatsIn(open.at(i), colour) > 0) {
                naming++;
            }
        }
        return naming;
    }

    private int countPossible(int player) {
        int possible = 0;
        int seen = seenHatsOf(player);
        for (int i = 0; i < open.count(); i++) {
            if (agreesWithNow(open.at(i), seen)) {
                possible++;
            }
        }
        return possible;
    }

    // ---- who is certain

    /** One bit for each colour that a player would hold possible of another one by these ways. */
    private int possibleColours(Ways ways, int player, int other) {
        int colours = 0;
        int seen = seenHatsOf(player);
        for (int i = 0; i < ways.count(); i++) {
            int way = ways.at(i);
            if (agreesWithNow(way, seen)) {
                colours = colours | (1 << colourIn(way, other));
            }
        }
        return colours;
    }

    private static boolean isOneColour(int colours) {
        return Integer.bitCount(colours) == 1;
    }

    private boolean isCertainBy(Ways ways, int player) {
        return isOneColour(possibleColours(ways, player, player));
    }

    private int countCertain(Ways ways) {
        int certain = 0;
        for (int player = 0; player < playerCount; player++) {
            if (isCertainBy(ways, player)) {
                certain++;
            }
        }
        return certain;
    }

    // All ways of one view are alike in whether the player would be certain, so the colours are
    // noted once for each view, and not looked for again for each way.
    private void noteOwnColours(Ways ways, int player) {
        for (int i = 0; i < ways.count(); i++) {
            setOwnColours(viewOf(ways.at(i), player), 0);
        }
        for (int i = 0; i < ways.count(); i++) {
            int way = ways.at(i);
            int view = viewOf(way, player);
            setOwnColours(view, ownColours(view) | (1 << colourIn(way, player)));
        }
    }

    private int ownColours(int view) {
        return view >= 0 && view < ownColoursByView.length ? ownColoursByView[view] : 0;
    }

    private void setOwnColours(int view, int colours) {
        if (view >= 0 && view < ownColoursByView.length) {
            ownColoursByView[view] = colours;
        }
    }

    /** Asks by the ways for which the own colours of this player were noted last. */
    private boolean wouldBeCertain(int way, int player) {
        return isOneColour(ownColours(viewOf(way, player)));
    }

    // ---- turns

    private int playerAfter(int player) {
        return player + 1 < playerCount ? player + 1 : 0;
    }

    /** Keeps the ways that are open behind a player's turn; returns whether the colour is told. */
    private boolean passTurn(Ways ways, int player) {
        boolean isTold = isCertainBy(ways, player);
        keepByCertainty(ways, player, isTold);
        if (isTold) {
            keepWithHat(ways, player, colourIn(wayOfNow, player));
        }
        return isTold;
    }

    /** Behind how many turns all players from the first one on, ahead of the end, are certain. */
    private int turnsUntilAreCertain(int first, int end) {
        trial.copyFrom(open);
        int player = turn;
        for (int turns = 0; turns < MOST_TURNS_AHEAD; turns++) {
            if (areCertainBy(trial, first, end)) {
                return turns;
            }
            passTurn(trial, player);
            player = playerAfter(player);
        }
        return areCertainBy(trial, first, end) ? MOST_TURNS_AHEAD : NOT_BY_THEN;
    }

    private boolean areCertainBy(Ways ways, int first, int end) {
        for (int player = first; player < end; player++) {
            if (!isCertainBy(ways, player)) {
                return false;
            }
        }
        return true;
    }

    // ---- the checksum

    private static long digested(long d, long x) {
        return d * DIGEST_FACTOR + x;
    }

    private static long digested(long d, boolean isSo) {
        return digested(d, isSo ? 1L : 0L);
    }

    private long digestedPlayer(long before, int player) {
        long d = before;
        d = digested(d, hatOf(player));
        d = digested(d, possibleWays(player));
        d = digested(d, isCertain(player));
        d = digested(d, isKnownToAll(player));
        d = digested(d, certainIfTold(player));
        for (int other = 0; other < playerCount; other++) {
            d = digested(d, sees(player, other));
            d = digested(d, knowsHatOf(player, other));
            d = digested(d, knowsCertain(player, other));
        }
        return d;
    }
}
