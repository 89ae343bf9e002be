import java.util.Arrays;
import java.util.Comparator;
import java.util.HashSet;
import java.util.Set;
import java.util.TreeSet;

/**
 * Long runs of mixed calls, compared with a model that is written from the document's terms in
 * another way: it sorts the marked places. The runs are the same every time.
 */
public final class OracleTest {
    private static final int RUNS = 60;
    private static final int CALLS = 512;

    private static long state;

    public static void main(String[] args) {
        for (int run = 0; run < RUNS; run++) {
            state = 7919L * run + 1;
            oneRun(run);
        }
        for (int place = 0; place < 192; place++) {
            singleMark(place);
        }
        Check.finish();
    }

    private static void oneRun(int run) {
        DistanceMap map = new DistanceMap();
        TreeSet<Integer> marks = new TreeSet<>();
        // Some runs mark nearly everything and some nearly nothing.
        int markShare = 5 + 10 * (run % 5);
        int clearShare = 5 + 10 * (run / 5 % 4);
        for (int call = 0; call < CALLS; call++) {
            int x = below(19) - 1;
            int y = below(15) - 1;
            int choice = below(100);
            String where = "run " + run + " call " + call + ": ";
            if (choice < markShare) {
                int want = onBoard(x, y) ? (marks.add(16 * y + x) ? 1 : 0) : -1;
                Check.due(where + "mark(" + x + ", " + y + ")", map.mark(x, y), want);
            } else if (choice < markShare + clearShare) {
                int want = onBoard(x, y) ? (marks.remove(16 * y + x) ? 1 : 0) : -1;
                Check.due(where + "clear(" + x + ", " + y + ")", map.clear(x, y), want);
            } else {
                ask(where, map, marks, x, y, below(7));
            }
        }
    }

    private static void singleMark(int place) {
        DistanceMap map = new DistanceMap();
        map.mark(place % 16, place / 16);
        Set<Integer> marks = Set.of(place);
        for (int question = 0; question < 7; question++) {
            ask("only " + place + " marked: ", map, marks, place % 16, place / 16, question);
        }
    }

    private static void ask(String where, DistanceMap map, Set<Integer> marks, int x, int y, int question) {
        String place = "(" + x + ", " + y + ")";
        int number = 16 * y + x;
        boolean on = onBoard(x, y);
        switch (question) {
            case 0 -> {
                int mark = on ? markOf(marks, number) : -1;
                Check.due(where + "distance" + place, map.distance(x, y), mark < 0 ? -1 : apart(number, mark));
            }
            case 1 -> Check.due(where + "nearest" + place, map.nearest(x, y), on ? markOf(marks, number) : -1);
            case 2 -> Check.due(where + "reach" + place, map.reach(x, y), on ? reach(marks, number) : -1);
            case 3 -> Check.due(where + "farthest()", map.farthest(), farthest(marks));
            case 4 -> {
                int limit = below(60) - 2;
                Check.due(where + "within(" + limit + ")", map.within(limit), within(marks, limit));
            }
            case 5 -> Check.due(where + "edges()", map.edges(), edges(marks));
            default -> Check.due(where + "total()", map.total(), total(marks));
        }
    }

    private static int markOf(Set<Integer> marks, int number) {
        Comparator<Integer> byDistance = Comparator.comparingInt(mark -> apart(number, mark));
        return marks.stream().min(byDistance.thenComparing(Comparator.naturalOrder())).orElse(-1);
    }

    private static int[] lengths(Set<Integer> marks) {
        int[] lengths = new int[marks.isEmpty() ? 0 : 192];
        for (int number = 0; number < lengths.length; number++) {
            lengths[number] = apart(number, markOf(marks, number));
        }
        return lengths;
    }

    private static int reach(Set<Integer> marks, int mark) {
        int count = 0;
        for (int number = 0; number < 192; number++) {
            count += marks.contains(mark) && markOf(marks, number) == mark ? 1 : 0;
        }
        return count;
    }

    private static int farthest(Set<Integer> marks) {
        return Arrays.stream(lengths(marks)).max().orElse(-1);
    }

    private static int within(Set<Integer> marks, int limit) {
        return (int) Arrays.stream(lengths(marks)).filter(length -> length <= limit).count();
    }

    private static int total(Set<Integer> marks) {
        return marks.isEmpty() ? -1 : Arrays.stream(lengths(marks)).sum();
    }

    private static int edges(Set<Integer> marks) {
        Set<Set<Integer>> pairs = new HashSet<>();
        int[] owners = new int[192];
        for (int number = 0; number < 192; number++) {
            owners[number] = markOf(marks, number);
        }
        for (int one = 0; one < 192; one++) {
            for (int other = 0; other < 192; other++) {
                if (apart(one, other) == 1 && owners[one] != owners[other]) {
                    pairs.add(Set.of(one, other));
                }
            }
        }
        return pairs.size();
    }

    private static int apart(int one, int other) {
        int across = one % 16 - other % 16;
        int down = one / 16 - other / 16;
        return across * across + down * down;
    }

    private static boolean onBoard(int x, int y) {
        return 0 <= x && x <= 15 && 0 <= y && y <= 11;
    }

    /** The next number of a fixed sequence, from 0 to bound - 1. */
    private static int below(int bound) {
        state = state * 6364136223846793005L + 1442695040888963407L;
        return (int) ((state >>> 33) % bound);
    }
}
