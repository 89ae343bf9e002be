/**
 * For each promise of the document: ordinary inputs, the edges it names, and wrong inputs. No object
 * gets more than 512 calls here, since later answers are free.
 */
public final class PromiseTest {
    private static final int MIN = Integer.MIN_VALUE;
    private static final int MAX = Integer.MAX_VALUE;

    // Each is out of range, and many of them would have the number of a place of the board if it
    // were only the number, or its wrapped-around value, that was looked at.
    private static final int[][] OUT_OF_RANGE = {
        {-1, 0}, {16, 0}, {0, -1}, {0, 12}, {-1, -1}, {16, 12}, {-1, 1}, {16, 10}, {-16, 1},
        {32, -1}, {15, 12}, {15, -1}, {-1, 11}, {16, 11}, {0, 1 << 28}, {1 << 28, 0},
        {MIN, 0}, {MAX, 0}, {0, MIN}, {0, MAX}, {MIN, MIN}, {MAX, MAX}, {MIN, MAX}, {MAX, MIN},
    };

    public static void main(String[] args) {
        promise1NewObject();
        promise1ObjectsAreApart();
        promise2Mark();
        promise3Clear();
        promise4Distance();
        promise5Nearest();
        promise5EqualDistances();
        promise6Reach();
        promise7Farthest();
        promise8Within();
        promise9Edges();
        promise10Total();
        refusedCallsChangeNothing();
        refusedCallsOnAFullBoard();
        questionsChangeNothing();
        Check.finish();
    }

    private static void promise1NewObject() {
        DistanceMap map = new DistanceMap();
        dueEmpty("1: new", map);
        for (int y = 0; y < 12; y++) {
            for (int x = 0; x < 16; x++) {
                Check.due("1: clear" + at(x, y), map.clear(x, y), 0);
            }
        }
        dueEmpty("1: new, after clears", map);
    }

    private static void promise1ObjectsAreApart() {
        DistanceMap first = new DistanceMap();
        first.mark(3, 4);
        DistanceMap second = new DistanceMap();
        dueEmpty("1: second object", second);
        second.mark(0, 0);
        Check.due("1: first.nearest(0, 0)", first.nearest(0, 0), 67);
    }

    private static void promise2Mark() {
        DistanceMap map = new DistanceMap();
        for (int y = 0; y < 12; y++) {
            for (int x = 0; x < 16; x++) {
                Check.due("2: mark" + at(x, y), map.mark(x, y), 1);
                Check.due("2: mark again" + at(x, y), map.mark(x, y), 0);
            }
        }
        Check.due("2: all are marked", map.within(0), 192);
        for (int[] place : OUT_OF_RANGE) {
            Check.due("2: mark" + at(place), new DistanceMap().mark(place[0], place[1]), -1);
        }
        DistanceMap other = new DistanceMap();
        other.mark(2, 2);
        other.clear(2, 2);
        Check.due("2: mark after clear", other.mark(2, 2), 1);
        Check.due("2: marked after clear", other.distance(2, 2), 0);
    }

    private static void promise3Clear() {
        DistanceMap map = new DistanceMap();
        Check.due("3: clear of an unmarked place", map.clear(5, 5), 0);
        map.mark(5, 5);
        map.mark(6, 5);
        Check.due("3: clear of a neighbour", map.clear(5, 6), 0);
        Check.due("3: still marked", map.distance(5, 5), 0);
        Check.due("3: clear", map.clear(5, 5), 1);
        Check.due("3: not marked any more", map.nearest(5, 5), 86);
        Check.due("3: clear again", map.clear(5, 5), 0);
        Check.due("3: clear of the last", map.clear(6, 5), 1);
        dueEmpty("3: all cleared", map);
        for (int[] place : OUT_OF_RANGE) {
            Check.due("3: clear" + at(place), map.clear(place[0], place[1]), -1);
        }
        for (int[] corner : new int[][] {{0, 0}, {15, 0}, {0, 11}, {15, 11}}) {
            DistanceMap one = new DistanceMap();
            one.mark(corner[0], corner[1]);
            Check.due("3: clear" + at(corner), one.clear(corner[0], corner[1]), 1);
            dueEmpty("3: corner cleared", one);
        }
    }

    private static void promise4Distance() {
        DistanceMap map = new DistanceMap();
        Check.due("4: distance without a mark", map.distance(4, 4), -1);
        map.mark(0, 0);
        Check.due("4: distance to itself", map.distance(0, 0), 0);
        Check.due("4: distance in a row", map.distance(15, 0), 225);
        Check.due("4: distance in a column", map.distance(0, 11), 121);
        Check.due("4: distance aslant", map.distance(15, 11), 346);
        map.mark(15, 11);
        Check.due("4: the nearer of two", map.distance(14, 9), 5);
        // (3, 3) is 6 steps away and (0, 5) only 5, but by the true distance (3, 3) is nearer.
        DistanceMap steps = new DistanceMap();
        steps.mark(3, 3);
        steps.mark(0, 5);
        Check.due("4: the true distance", steps.distance(0, 0), 18);
        // By the greater of the two differences (4, 4) would be nearer than (5, 0).
        DistanceMap king = new DistanceMap();
        king.mark(4, 4);
        king.mark(5, 0);
        Check.due("4: not the greater difference", king.distance(0, 0), 25);
        for (int[] place : OUT_OF_RANGE) {
            Check.due("4: distance" + at(place), map.distance(place[0], place[1]), -1);
        }
    }

    private static void promise5Nearest() {
        DistanceMap map = new DistanceMap();
        Check.due("5: nearest without a mark", map.nearest(4, 4), -1);
        map.mark(15, 11);
        Check.due("5: nearest from afar", map.nearest(0, 0), 191);
        map.mark(0, 0);
        Check.due("5: number 0", map.nearest(1, 1), 0);
        Check.due("5: number 191", map.nearest(14, 10), 191);
        map.mark(2, 1);
        Check.due("5: number 18", map.nearest(3, 1), 18);
        map.clear(2, 1);
        Check.due("5: after clear", map.nearest(3, 1), 0);
        DistanceMap steps = new DistanceMap();
        steps.mark(3, 3);
        steps.mark(0, 5);
        Check.due("5: by the true distance", steps.nearest(0, 0), 51);
        for (int[] place : OUT_OF_RANGE) {
            Check.due("5: nearest" + at(place), map.nearest(place[0], place[1]), -1);
        }
    }

    private static void promise5EqualDistances() {
        // All twelve have the distance 25 to (7, 5); they are marked from the greatest number down
        // and from the least number up, so the order of marking must not count.
        int[][] circle = {
            {7, 0}, {4, 1}, {10, 1}, {3, 2}, {11, 2}, {2, 5}, {12, 5}, {3, 8}, {11, 8}, {4, 9}, {10, 9}, {7, 10},
        };
        DistanceMap falling = new DistanceMap();
        for (int i = circle.length - 1; i >= 0; i--) {
            falling.mark(circle[i][0], circle[i][1]);
            Check.due("5: equal, falling", falling.nearest(7, 5), 16 * circle[i][1] + circle[i][0]);
            Check.due("5: equal, falling, distance", falling.distance(7, 5), 25);
        }
        DistanceMap rising = new DistanceMap();
        for (int[] place : circle) {
            rising.mark(place[0], place[1]);
            Check.due("5: equal, rising", rising.nearest(7, 5), 7);
        }
        for (int i = 0; i + 1 < circle.length; i++) {
            rising.clear(circle[i][0], circle[i][1]);
            Check.due("5: equal, cleared", rising.nearest(7, 5), 16 * circle[i + 1][1] + circle[i + 1][0]);
        }
        // The least number is that of the lesser row, though its column is the greater one.
        DistanceMap rows = new DistanceMap();
        rows.mark(0, 2);
        rows.mark(2, 0);
        Check.due("5: rows before columns", rows.nearest(0, 0), 2);
        Check.due("5: rows before columns", rows.nearest(2, 2), 2);
    }

    private static void promise6Reach() {
        DistanceMap map = new DistanceMap();
        Check.due("6: reach without a mark", map.reach(0, 0), 0);
        map.mark(4, 6);
        Check.due("6: reach of the only mark", map.reach(4, 6), 192);
        Check.due("6: reach of an unmarked place", map.reach(4, 5), 0);
        // Column 7 is equally near to both and goes to the lesser number: 8 columns against 8.
        map.mark(10, 6);
        Check.due("6: reach left", map.reach(4, 6), 96);
        Check.due("6: reach right", map.reach(10, 6), 96);
        map.mark(15, 0);
        map.clear(4, 6);
        Check.due("6: reach after clear", map.reach(4, 6), 0);
        Check.due("6: reaches make the board", map.reach(10, 6) + map.reach(15, 0), 192);
        for (int[] place : OUT_OF_RANGE) {
            Check.due("6: reach" + at(place), map.reach(place[0], place[1]), -1);
        }
        DistanceMap full = fullBoard();
        for (int place = 0; place < 192; place++) {
            Check.due("6: reach, full board, " + place, full.reach(place % 16, place / 16), 1);
        }
        // Closed in on all eight sides, only the place itself is left.
        DistanceMap ring = new DistanceMap();
        for (int place = 0; place < 9; place++) {
            ring.mark(6 + place % 3, 4 + place / 3);
        }
        Check.due("6: reach, closed in", ring.reach(7, 5), 1);
    }

    private static void promise7Farthest() {
        DistanceMap map = new DistanceMap();
        Check.due("7: farthest without a mark", map.farthest(), -1);
        map.mark(0, 0);
        Check.due("7: farthest from a corner", map.farthest(), 346);
        map.mark(15, 11);
        // Not in the other corners, which have 121: (12, 0) has 144 to the one and 9 + 121 to the other.
        Check.due("7: farthest of two corners", map.farthest(), 130);
        map.clear(0, 0);
        Check.due("7: farthest after clear", map.farthest(), 346);
        map.clear(15, 11);
        Check.due("7: farthest after the last clear", map.farthest(), -1);
        DistanceMap full = fullBoard();
        Check.due("7: farthest, full board", full.farthest(), 0);
        full.clear(15, 11);
        Check.due("7: farthest, one place left out", full.farthest(), 1);
    }

    private static void promise8Within() {
        DistanceMap map = new DistanceMap();
        for (int limit : new int[] {MIN, -2, -1, 0, 1, 346, MAX}) {
            Check.due("8: within(" + limit + ") without a mark", map.within(limit), 0);
        }
        map.mark(0, 0);
        Check.due("8: within(MIN)", map.within(MIN), 0);
        Check.due("8: within(-1)", map.within(-1), 0);
        Check.due("8: within(0)", map.within(0), 1);
        Check.due("8: within(1)", map.within(1), 3);
        Check.due("8: within(2)", map.within(2), 4);
        Check.due("8: within(3)", map.within(3), 4);
        Check.due("8: within(4)", map.within(4), 6);
        Check.due("8: within(345)", map.within(345), 191);
        Check.due("8: within(346)", map.within(346), 192);
        Check.due("8: within(MAX)", map.within(MAX), 192);
        map.mark(2, 0);
        // (1, 0) has the distance 1 to both and counts once.
        Check.due("8: within(1), two marks", map.within(1), 6);
        Check.due("8: within(0), full board", fullBoard().within(0), 192);
        Check.due("8: within(-1), full board", fullBoard().within(-1), 0);
    }

    private static void promise9Edges() {
        DistanceMap map = new DistanceMap();
        Check.due("9: edges without a mark", map.edges(), 0);
        map.mark(0, 0);
        Check.due("9: edges of one mark", map.edges(), 0);
        // One border from the top to the bottom; the ends of two rows are not side by side.
        map.mark(15, 0);
        Check.due("9: edges, left and right", map.edges(), 12);
        map.clear(15, 0);
        map.mark(0, 11);
        Check.due("9: edges, top and bottom", map.edges(), 16);
        map.clear(0, 0);
        map.clear(0, 11);
        Check.due("9: edges after the last clear", map.edges(), 0);
        // 12 rows of 15 pairs and 16 columns of 11 pairs.
        Check.due("9: edges, full board", fullBoard().edges(), 356);
        // The corner now has the mark of the place above it, so one pair no longer differs.
        DistanceMap corner = fullBoard();
        corner.clear(15, 11);
        Check.due("9: edges, corner left out", corner.edges(), 355);
    }

    private static void promise10Total() {
        DistanceMap map = new DistanceMap();
        Check.due("10: total without a mark", map.total(), -1);
        map.mark(0, 0);
        // 12 times the squares from 0 to 15 (1240), and 16 times those from 0 to 11 (506).
        Check.due("10: total from a corner", map.total(), 12 * 1240 + 16 * 506);
        map.mark(15, 0);
        // Now twice the squares from 0 to 7 (140) in each row.
        Check.due("10: total of two corners", map.total(), 12 * 280 + 16 * 506);
        map.clear(0, 0);
        Check.due("10: total after clear", map.total(), 12 * 1240 + 16 * 506);
        map.clear(15, 0);
        Check.due("10: total after the last clear", map.total(), -1);
        DistanceMap full = fullBoard();
        Check.due("10: total, full board", full.total(), 0);
        full.clear(7, 7);
        Check.due("10: total, one place left out", full.total(), 1);
    }

    private static void refusedCallsChangeNothing() {
        DistanceMap empty = new DistanceMap();
        for (int[] place : OUT_OF_RANGE) {
            callAll(empty, place);
        }
        dueEmpty("after refused calls", empty);
    }

    private static void refusedCallsOnAFullBoard() {
        DistanceMap full = fullBoard();
        for (int[] place : OUT_OF_RANGE) {
            callAll(full, place);
        }
        Check.due("refused, full board: within(0)", full.within(0), 192);
        Check.due("refused, full board: edges()", full.edges(), 356);
    }

    private static void questionsChangeNothing() {
        DistanceMap map = new DistanceMap();
        map.mark(3, 3);
        map.mark(12, 8);
        for (int round = 0; round < 3; round++) {
            Check.due("asked again: distance", map.distance(4, 4), 2);
            Check.due("asked again: nearest", map.nearest(4, 4), 51);
            Check.due("asked again: reach", map.reach(4, 4), 0);
            Check.due("asked again: reaches", map.reach(3, 3) + map.reach(12, 8), 192);
            Check.due("asked again: farthest", map.farthest(), 73);
            Check.due("asked again: within", map.within(0), 2);
            Check.due("asked again: edges", map.edges(), 18);
            Check.due("asked again: total", map.total(), 4156);
            Check.due("asked again: mark", map.mark(3, 3), 0);
            Check.due("asked again: clear", map.clear(4, 4), 0);
        }
    }

    private static void callAll(DistanceMap map, int[] place) {
        Check.due("refused: mark" + at(place), map.mark(place[0], place[1]), -1);
        Check.due("refused: clear" + at(place), map.clear(place[0], place[1]), -1);
        Check.due("refused: distance" + at(place), map.distance(place[0], place[1]), -1);
        Check.due("refused: nearest" + at(place), map.nearest(place[0], place[1]), -1);
        Check.due("refused: reach" + at(place), map.reach(place[0], place[1]), -1);
    }

    private static void dueEmpty(String when, DistanceMap map) {
        for (int y = 0; y < 12; y += 11) {
            for (int x = 0; x < 16; x++) {
                Check.due(when + ": distance" + at(x, y), map.distance(x, y), -1);
                Check.due(when + ": nearest" + at(x, y), map.nearest(x, y), -1);
                Check.due(when + ": reach" + at(x, y), map.reach(x, y), 0);
            }
        }
        Check.due(when + ": farthest()", map.farthest(), -1);
        Check.due(when + ": within(MAX)", map.within(MAX), 0);
        Check.due(when + ": edges()", map.edges(), 0);
        Check.due(when + ": total()", map.total(), -1);
    }

    private static DistanceMap fullBoard() {
        DistanceMap map = new DistanceMap();
        for (int place = 0; place < 192; place++) {
            map.mark(place % 16, place / 16);
        }
        return map;
    }

    private static String at(int... place) {
        return "(" + place[0] + ", " + place[1] + ")";
    }
}
