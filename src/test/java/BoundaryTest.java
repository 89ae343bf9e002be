/**
 * The boundary cases of the document that go beyond one promise: each place just outside of the
 * board, refused calls on boards of all kinds, the full board, every tie of two marks, and an
 * object's last call. PromiseTest has those of the single promises.
 */
public final class BoundaryTest {
    private static final int COLUMNS = 16;
    private static final int ROWS = 12;
    private static final int PLACES = 192;
    private static final int CALLS = 512;
    private static final int PATTERNS = 10;

    // Each of them is a place's coordinate again if only its low 4, 8, 16 or 28 bits are kept.
    private static final int[] FAR = {
        -65536, -256, -32, -16, 32, 256, 65536, 1 << 28, -1 << 28, Integer.MIN_VALUE,
    };

    private static final String[] PLACE_CALLS = {"mark", "clear", "distance", "nearest", "reach"};

    public static void main(String[] args) {
        allAroundTheBoardIsRefused();
        farFromTheBoardIsRefused();
        theOutermostPlacesAreNotRefused();
        fullBoardDistanceAndNearest();
        fullBoardIsMarkedAgain();
        fullBoardIsCleared();
        everyTieOfTwo();
        theLastCallIsAnswered();
        Check.finish();
    }

    // "Places out of range are refused: the call answers -1 and changes nothing."
    private static void allAroundTheBoardIsRefused() {
        for (int x = -1; x <= COLUMNS; x++) {
            dueRefused(x, -1);
            dueRefused(x, ROWS);
        }
        for (int y = 0; y < ROWS; y++) {
            dueRefused(-1, y);
            dueRefused(COLUMNS, y);
        }
    }

    private static void farFromTheBoardIsRefused() {
        for (int far : FAR) {
            dueRefused(far, 0);
            dueRefused(far + 15, 11);
            dueRefused(0, far);
            dueRefused(15, far + 11);
            dueRefused(far, far);
        }
    }

    private static void dueRefused(int x, int y) {
        for (String call : PLACE_CALLS) {
            for (int pattern = 0; pattern < PATTERNS; pattern++) {
                dueRefusedOnce(call, x, y, pattern);
            }
        }
    }

    // A fresh object for each call, so that no later call can undo what an earlier one has changed.
    private static void dueRefusedOnce(String call, int x, int y, int pattern) {
        DistanceMap map = new DistanceMap();
        for (int place = 0; place < PLACES; place++) {
            if (isInPattern(place, pattern)) {
                markNumber(map, place);
            }
        }
        String what = "refused: " + call + "(" + x + ", " + y + "), pattern " + pattern;
        Check.due(what, answer(map, call, x, y), -1);
        // If nothing has changed, then to mark what is marked and to clear what is not answers 0.
        for (int place = 0; place < PLACES; place++) {
            int got = isInPattern(place, pattern)
                ? map.mark(place % COLUMNS, place / COLUMNS)
                : map.clear(place % COLUMNS, place / COLUMNS);
            Check.due(what + " changed place " + place, got, 0);
        }
    }

    /**
     * 0 is the empty board and 1 the full one. The others take one bit of the number each, so that
     * any two places differ in one of them, and a mark that has moved is seen.
     */
    private static boolean isInPattern(int place, int pattern) {
        return pattern == 1 || pattern > 1 && (place >> (pattern - 2)) % 2 == 1;
    }

    private static int answer(DistanceMap map, String call, int x, int y) {
        return switch (call) {
            case "mark" -> map.mark(x, y);
            case "clear" -> map.clear(x, y);
            case "distance" -> map.distance(x, y);
            case "nearest" -> map.nearest(x, y);
            default -> map.reach(x, y);
        };
    }

    // "a place (x, y) has x from 0 to 15 and y from 0 to 11, and the NUMBER 16 * y + x"
    private static void theOutermostPlacesAreNotRefused() {
        for (int place = 0; place < PLACES; place++) {
            int x = place % COLUMNS;
            int y = place / COLUMNS;
            if (x == 0 || x == 15 || y == 0 || y == 11) {
                String what = "outermost place " + place + ": ";
                DistanceMap map = new DistanceMap();
                Check.due(what + "reach, not marked", map.reach(x, y), 0);
                Check.due(what + "mark", map.mark(x, y), 1);
                Check.due(what + "distance", map.distance(x, y), 0);
                Check.due(what + "nearest", map.nearest(x, y), place);
                Check.due(what + "nearest of the opposite", map.nearest(15 - x, 11 - y), place);
                Check.due(what + "reach", map.reach(x, y), PLACES);
                Check.due(what + "clear", map.clear(x, y), 1);
                Check.due(what + "distance, cleared", map.distance(x, y), -1);
                Check.due(what + "nearest, cleared", map.nearest(x, y), -1);
            }
        }
    }

    private static void fullBoardDistanceAndNearest() {
        DistanceMap map = fullBoard();
        for (int place = 0; place < PLACES; place++) {
            int got = map.nearest(place % COLUMNS, place / COLUMNS);
            Check.due("full board: nearest of " + place, got, place);
        }
        for (int x = 0; x < COLUMNS; x++) {
            Check.due("full board: distance, column " + x, map.distance(x, 5), 0);
        }
        for (int y = 0; y < ROWS; y++) {
            Check.due("full board: distance, row " + y, map.distance(15, y), 0);
        }
    }

    private static void fullBoardIsMarkedAgain() {
        DistanceMap map = fullBoard();
        for (int place = 0; place < PLACES; place++) {
            int got = map.mark(place % COLUMNS, place / COLUMNS);
            Check.due("full board: mark of " + place, got, 0);
        }
        Check.due("full board, marked again: within(0)", map.within(0), PLACES);
        Check.due("full board, marked again: total()", map.total(), 0);
    }

    private static void fullBoardIsCleared() {
        DistanceMap map = fullBoard();
        for (int place = 0; place < PLACES; place++) {
            int got = map.clear(place % COLUMNS, place / COLUMNS);
            Check.due("full board: clear of " + place, got, 1);
        }
        Check.due("full board, cleared: distance", map.distance(15, 11), -1);
        Check.due("full board, cleared: nearest", map.nearest(15, 11), -1);
        Check.due("full board, cleared: reach", map.reach(15, 11), 0);
        Check.due("full board, cleared: farthest", map.farthest(), -1);
        Check.due("full board, cleared: within", map.within(346), 0);
        Check.due("full board, cleared: edges", map.edges(), 0);
        Check.due("full board, cleared: total", map.total(), -1);
    }

    // "of several equally near ones that with the least number": every tie of two that there is, so
    // that the least and the greatest distance, number 0 and number 191 are among them.
    private static void everyTieOfTwo() {
        for (int place = 0; place < PLACES; place++) {
            for (int lesser = 0; lesser < PLACES; lesser++) {
                for (int greater = lesser + 1; greater < PLACES; greater++) {
                    if (apart(place, lesser) == apart(place, greater)) {
                        dueLesser(place, lesser, greater, true);
                        dueLesser(place, lesser, greater, false);
                    }
                }
            }
        }
    }

    private static void dueLesser(int place, int lesser, int greater, boolean lesserFirst) {
        DistanceMap map = new DistanceMap();
        markNumber(map, lesserFirst ? lesser : greater);
        markNumber(map, lesserFirst ? greater : lesser);
        int x = place % COLUMNS;
        int y = place / COLUMNS;
        String what = "tie of " + lesser + " and " + greater + " for " + place;
        Check.due(what + ": nearest", map.nearest(x, y), lesser);
        Check.due(what + ": distance", map.distance(x, y), apart(place, lesser));
        map.clear(lesser % COLUMNS, lesser / COLUMNS);
        Check.due(what + ": nearest, lesser cleared", map.nearest(x, y), greater);
    }

    // "An object is used for at most 512 calls after it has been made": the 512th is still due.
    private static void theLastCallIsAnswered() {
        String what = "the last call: ";
        Check.due(what + "mark", usedUp().mark(0, 0), 1);
        Check.due(what + "mark again", usedUp().mark(4, 4), 0);
        Check.due(what + "mark refused", usedUp().mark(16, 0), -1);
        Check.due(what + "clear", usedUp().clear(4, 4), 1);
        Check.due(what + "clear again", usedUp().clear(0, 0), 0);
        Check.due(what + "clear refused", usedUp().clear(0, 12), -1);
        Check.due(what + "distance", usedUp().distance(0, 0), 32);
        Check.due(what + "nearest", usedUp().nearest(0, 0), 68);
        Check.due(what + "reach", usedUp().reach(4, 4), PLACES);
        Check.due(what + "farthest", usedUp().farthest(), 170);
        Check.due(what + "within", usedUp().within(1), 5);
        Check.due(what + "edges", usedUp().edges(), 0);
        // The squares from -4 to 11 make 536 and those from -4 to 7 make 170.
        Check.due(what + "total", usedUp().total(), 12 * 536 + 16 * 170);
    }

    /** An object with (4, 4) marked and one call left. */
    private static DistanceMap usedUp() {
        DistanceMap map = new DistanceMap();
        for (int call = 1; call < CALLS; call++) {
            if (call % 2 == 1) {
                map.mark(4, 4);
            } else {
                map.clear(4, 4);
            }
        }
        return map;
    }

    private static DistanceMap fullBoard() {
        DistanceMap map = new DistanceMap();
        for (int place = 0; place < PLACES; place++) {
            markNumber(map, place);
        }
        return map;
    }

    private static void markNumber(DistanceMap map, int number) {
        map.mark(number % COLUMNS, number / COLUMNS);
    }

    private static int apart(int one, int other) {
        int across = one % COLUMNS - other % COLUMNS;
        int down = one / COLUMNS - other / COLUMNS;
        return across * across + down * down;
    }
}
