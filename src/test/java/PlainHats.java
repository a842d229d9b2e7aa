import java.util.ArrayList;
import java.util.List;

/**
 * The document once more, word for word and without any thrift: each way is an array of colours,
 * and each question is answered by looking at all open ways. It shares no code with the program,
 * so that a fault would have to be made twice to stay unseen.
 */
public final class PlainHats {
    private final List<Integer> hats = new ArrayList<>();
    private final boolean[][] looksAway = new boolean[5][5];
    private List<int[]> open = allWays();
    private boolean started = false;
    private int turns = 0;
    private int silent = 0;

    private List<int[]> allWays() {
        List<int[]> ways = new ArrayList<>();
        ways.add(new int[0]);
        for (int p = 0; p < hats.size(); p++) {
            List<int[]> longer = new ArrayList<>();
            for (int[] way : ways) {
                for (int c = 0; c < 3; c++) {
                    int[] next = java.util.Arrays.copyOf(way, p + 1);
                    next[p] = c;
                    longer.add(next);
                }
            }
            ways = longer;
        }
        return ways;
    }

    private int[] now() {
        return hats.stream().mapToInt(Integer::intValue).toArray();
    }

    private void player(int p) {
        if (p < 0 || p >= hats.size()) {
            throw new IndexOutOfBoundsException();
        }
    }

    private void colour(int c) {
        if (c < 0 || c > 2) {
            throw new IndexOutOfBoundsException();
        }
    }

    private static int count(int[] way, int colour) {
        int n = 0;
        for (int c : way) {
            n += c == colour ? 1 : 0;
        }
        return n;
    }

    private List<int[]> possible(List<int[]> ways, int[] ifNow, int p) {
        List<int[]> held = new ArrayList<>();
        for (int[] way : ways) {
            boolean agrees = true;
            for (int q = 0; q < hats.size(); q++) {
                agrees &= q == p || looksAway[p][q] || way[q] == ifNow[q];
            }
            if (agrees) {
                held.add(way);
            }
        }
        return held;
    }

    private static boolean same(List<int[]> ways, int p) {
        for (int[] way : ways) {
            if (way[p] != ways.get(0)[p]) {
                return false;
            }
        }
        return true;
    }

    private boolean certain(List<int[]> ways, int[] ifNow, int p) {
        return same(possible(ways, ifNow, p), p);
    }

    private List<int[]> behindTurn(List<int[]> ways, int p) {
        boolean told = certain(ways, now(), p);
        List<int[]> kept = new ArrayList<>();
        for (int[] way : ways) {
            boolean would = certain(ways, way, p);
            if (told ? would && way[p] == hats.get(p) : !would) {
                kept.add(way);
            }
        }
        return kept;
    }

    public int addPlayer(int c) {
        colour(c);
        if (hats.size() == 5 || started) {
            throw new IllegalStateException();
        }
        hats.add(c);
        open = allWays();
        return hats.size() - 1;
    }

    private void two(int p, int q) {
        player(p);
        player(q);
        if (p == q) {
            throw new IllegalArgumentException();
        }
    }

    public boolean turnAway(int p, int q) {
        two(p, q);
        looksAway[p][q] = !looksAway[p][q];
        return !looksAway[p][q];
    }

    private static int[] swapped(int[] way, int p, int q) {
        int[] other = way.clone();
        other[p] = way[q];
        other[q] = way[p];
        return other;
    }

    public int borrow(int p, int q) {
        two(p, q);
        int hat = hats.get(p);
        hats.set(p, hats.get(q));
        hats.set(q, hat);
        open.replaceAll(way -> swapped(way, p, q));
        started = true;
        return hats.get(p);
    }

    public int takeTurn() {
        if (hats.isEmpty()) {
            throw new IllegalStateException();
        }
        int p = turns % hats.size();
        boolean told = certain(open, now(), p);
        open = behindTurn(open, p);
        turns++;
        silent += told ? 0 : 1;
        started = true;
        return told ? hats.get(p) : -1;
    }

    private void many(int m) {
        if (m < 0 || m > 5) {
            throw new IllegalArgumentException();
        }
    }

    public int sayAtLeast(int c, int m) {
        colour(c);
        many(m);
        if (count(now(), c) < m) {
            throw new IllegalStateException();
        }
        open.removeIf(way -> count(way, c) < m);
        started = true;
        return open.size();
    }

    public int sayAtMost(int c, int m) {
        colour(c);
        many(m);
        if (count(now(), c) > m) {
            throw new IllegalStateException();
        }
        open.removeIf(way -> count(way, c) > m);
        started = true;
        return open.size();
    }

    public int begin() {
        open = allWays();
        started = false;
        turns = 0;
        silent = 0;
        return open.size();
    }

    public int players() {
        return hats.size();
    }

    public int turnsTaken() {
        return turns;
    }

    public int silentTurns() {
        return silent;
    }

    public int playerInTurn() {
        return hats.isEmpty() ? -1 : turns % hats.size();
    }

    public int hatOf(int p) {
        player(p);
        return hats.get(p);
    }

    public boolean sees(int p, int q) {
        player(p);
        player(q);
        return p != q && !looksAway[p][q];
    }

    public int hatsOf(int c) {
        colour(c);
        return count(now(), c);
    }

    public int openWays() {
        return open.size();
    }

    public int openWaysWith(int p, int c) {
        player(p);
        colour(c);
        return (int) open.stream().filter(way -> way[p] == c).count();
    }

    public boolean isKnownToAll(int p) {
        player(p);
        return same(open, p);
    }

    public int possibleWays(int p) {
        player(p);
        return possible(open, now(), p).size();
    }

    public boolean holdsPossible(int p, int q, int c) {
        player(p);
        player(q);
        colour(c);
        return possible(open, now(), p).stream().anyMatch(way -> way[q] == c);
    }

    public boolean isCertain(int p) {
        player(p);
        return certain(open, now(), p);
    }

    public boolean knowsHatOf(int p, int q) {
        player(p);
        player(q);
        return same(possible(open, now(), p), q);
    }

    public boolean knowsCertain(int p, int q) {
        player(p);
        player(q);
        return possible(open, now(), p).stream().allMatch(way -> certain(open, way, q));
    }

    private int certainOnes(List<int[]> ways) {
        int n = 0;
        for (int p = 0; p < hats.size(); p++) {
            n += certain(ways, now(), p) ? 1 : 0;
        }
        return n;
    }

    public int certainPlayers() {
        return certainOnes(open);
    }

    public int openAfterTurn() {
        if (hats.isEmpty()) {
            throw new IllegalStateException();
        }
        return behindTurn(open, turns % hats.size()).size();
    }

    public int turnsUntilCertain(int p) {
        player(p);
        List<int[]> ways = open;
        for (int k = 0; k <= 40; k++) {
            if (certain(ways, now(), p)) {
                return k;
            }
            ways = behindTurn(ways, (turns + k) % hats.size());
        }
        return -1;
    }

    public int turnsUntilAllCertain() {
        List<int[]> ways = open;
        for (int k = 0; k <= 40; k++) {
            if (certainOnes(ways) == hats.size()) {
                return k;
            }
            ways = behindTurn(ways, (turns + k) % hats.size());
        }
        return -1;
    }

    public int bestToName() {
        int best = -1;
        long fewest = Long.MAX_VALUE;
        for (int c = 2; c >= 0; c--) {
            int named = c;
            long left = open.stream().filter(way -> count(way, named) >= 1).count();
            if (hats.contains(c) && left <= fewest) {
                best = c;
                fewest = left;
            }
        }
        return best;
    }

    public int certainIfTold(int p) {
        player(p);
        return certainOnes(open.stream().filter(way -> way[p] == hats.get(p)).toList());
    }

    public double meanPossible() {
        double sum = 0;
        for (int p = 0; p < hats.size(); p++) {
            sum += possibleWays(p);
        }
        return hats.isEmpty() ? 0 : sum / hats.size();
    }

    public long digest() {
        List<Object> numbers = new ArrayList<>(List.of(players(), turnsTaken(), silentTurns(),
                playerInTurn(), openWays(), certainPlayers(), bestToName(),
                hats.isEmpty() ? 0 : openAfterTurn()));
        for (int p = 0; p < hats.size(); p++) {
            numbers.addAll(List.of(hatOf(p), possibleWays(p), isCertain(p), isKnownToAll(p),
                    certainIfTold(p)));
            for (int q = 0; q < hats.size(); q++) {
                numbers.addAll(List.of(sees(p, q), knowsHatOf(p, q), knowsCertain(p, q)));
            }
        }
        long d = 2053;
        for (Object x : numbers) {
            d = d * 31 + (x instanceof Boolean b ? (b ? 1 : 0) : (Integer) x);
        }
        return d;
    }
}
