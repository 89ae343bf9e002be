/**
 * For each place of a board the nearest marked place, by the true distance.
 *
 * Only the marked places are held. Every answer is worked out from them when it is asked for, so
 * that no answer can be left behind by a later mark or clear; the board is small enough for that.
 */
public final class DistanceMap {
    private static final int COLUMNS = 16;
    private static final int ROWS = 12;
    private static final int PLACES = COLUMNS * ROWS;

    private static final int REFUSED = -1;
    private static final int NONE = -1;

    private final boolean[] marked = new boolean[PLACES];

    public DistanceMap() {
    }

    public int mark(int x, int y) {
        return setMarked(x, y, true);
    }

    public int clear(int x, int y) {
        return setMarked(x, y, false);
    }

    public int distance(int x, int y) {
        if (!isOnBoard(x, y)) {
            return REFUSED;
        }
        int place = numberOf(x, y);
        return distanceToMark(place);
    }

    public int nearest(int x, int y) {
        if (!isOnBoard(x, y)) {
            return REFUSED;
        }
        int place = numberOf(x, y);
        return markOf(place);
    }

    public int reach(int x, int y) {
        if (!isOnBoard(x, y)) {
            return REFUSED;
        }
        // A place that is not marked is nobody's mark, so it needs no case of its own.
        int mark = numberOf(x, y);
        int count = 0;
        for (int place = 0; place < PLACES; place++) {
            if (markOf(place) == mark) {
                count++;
            }
        }
        return count;
    }

    public int farthest() {
        int greatest = NONE;
        for (int place = 0; place < PLACES; place++) {
            int length = distanceToMark(place);
            if (length > greatest) {
                greatest = length;
            }
        }
        return greatest;
    }

    public int within(int limit) {
        int count = 0;
        for (int place = 0; place < PLACES; place++) {
            int length = distanceToMark(place);
            if (length != NONE && length <= limit) {
                count++;
            }
        }
        return count;
    }

    public int edges() {
        int count = 0;
        for (int place = 0; place < PLACES; place++) {
            int mark = markOf(place);
            // The next number after a row's last place is in another row, not beside it.
            if (columnOf(place) + 1 < COLUMNS && markOf(place + 1) != mark) {
                count++;
            }
            if (rowOf(place) + 1 < ROWS && markOf(place + COLUMNS) != mark) {
                count++;
            }
        }
        return count;
    }

    public int total() {
        int sum = 0;
        for (int place = 0; place < PLACES; place++) {
            int length = distanceToMark(place);
            if (length == NONE) {
                return NONE;
            }
            sum += length;
        }
        return sum;
    }

    private int setMarked(int x, int y, boolean wanted) {
        if (!isOnBoard(x, y)) {
            return REFUSED;
        }
        int place = numberOf(x, y);
        if (marked[place] == wanted) {
            return 0;
        }
        marked[place] = wanted;
        return 1;
    }

    private int markOf(int place) {
        int mark = NONE;
        int least = 0;
        for (int candidate = 0; candidate < PLACES; candidate++) {
            if (marked[candidate]) {
                int length = squaredDistance(place, candidate);
                // Numbers rise, so only a strictly nearer one may displace an earlier one.
                if (mark == NONE || length < least) {
                    mark = candidate;
                    least = length;
                }
            }
        }
        return mark;
    }

    private int distanceToMark(int place) {
        int mark = markOf(place);
        return mark == NONE ? NONE : squaredDistance(place, mark);
    }

    private static int squaredDistance(int one, int other) {
        int across = columnOf(one) - columnOf(other);
        int down = rowOf(one) - rowOf(other);
        return across * across + down * down;
    }

    private static boolean isOnBoard(int x, int y) {
        return x >= 0 && x < COLUMNS && y >= 0 && y < ROWS;
    }

    private static int numberOf(int x, int y) {
        return COLUMNS * y + x;
    }

    private static int columnOf(int place) {
        return place % COLUMNS;
    }

    private static int rowOf(int place) {
        return place / COLUMNS;
    }
}
