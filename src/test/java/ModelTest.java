import java.util.ArrayList;
import java.util.Arrays;
import java.util.List;

/**
 * Long mixed runs of calls, compared with a second reading of the document that is written another
 * way: ways found by recursion and sorted as lists, detour by really taking the road away.
 */
public final class ModelTest {
    private static final int NONE = -1;
    private static final int PLACES = 6;
    private static final int RUNS = 400;
    // The document promises nothing about an object after this many calls.
    private static final int CALLS = 512;

    private final int[][] roads = new int[PLACES][PLACES];
    private final PathRanker ranker = new PathRanker();
    private final int run;
    private final int longest;
    private long seed;

    private ModelTest(int run) {
        this.run = run;
        this.seed = run * 7919L + 1;
        // Short roads make many ways of equal length, which is where the ranking is hard.
        int[] choices = {1, 2, 3, 20};
        this.longest = choices[run % choices.length];
    }

    public static void main(String[] args) {
        for (int run = 0; run < RUNS; run++) {
            ModelTest test = new ModelTest(run);
            for (int call = 0; call < CALLS; call++) {
                test.oneCall(call);
            }
        }
        Due.end();
    }

    /** A fixed sequence of numbers, the same in every session. */
    private int below(int bound) {
        seed = seed * 6364136223846793005L + 1442695040888963407L;
        return (int) ((seed >>> 33) % bound);
    }

    private int anyPlace() {
        return below(40) == 0 ? strange() : below(PLACES);
    }

    private int strange() {
        return Asked.NOT_PLACES[below(Asked.NOT_PLACES.length)];
    }

    private void oneCall(int call) {
        int a = anyPlace();
        int b = anyPlace();
        // The first calls fill the network, more of it in some runs than in others.
        boolean filling = call < 10 + run % 60;
        int kind = filling ? 0 : below(26);
        if (kind == 0) {
            int length = below(20) == 0 ? below(30) - 4 : 1 + below(longest);
            Due.is(told("build", a, b, length), modelBuild(a, b, length), ranker.build(a, b, length));
        } else if (kind == 1) {
            boolean was = hasRoad(a, b);
            if (was) {
                roads[a][b] = 0;
            }
            Due.is(told("close", a, b), was, ranker.close(a, b));
        } else if (kind == 2) {
            Due.is(told("road", a, b), hasRoad(a, b) ? roads[a][b] : NONE, ranker.road(a, b));
        } else if (kind == 3) {
            Due.is(told("roads"), modelRoads(), ranker.roads());
        } else {
            askWays(kind, a, b);
        }
    }

    private void askWays(int kind, int s, int t) {
        List<int[]> ways = rankedWays(s, t);
        int k = below(20) == 0 ? strange() : below(4) == 0 ? below(70) - 2 : below(ways.size() + 1);
        int[] way = k >= 0 && k < ways.size() ? ways.get(k) : null;
        int i = below(20) == 0 ? strange() : below(9) - 1;
        int n = below(20) == 0 ? strange() : below(5 * longest + 2);
        int v = anyPlace();
        int w = anyPlace();
        switch (kind % 9) {
            case 0 -> Due.is(told("ways", s, t), ways.size(), ranker.ways(s, t));
            case 1 -> Due.is(told("length", s, t, k), way == null ? NONE : total(way), ranker.length(s, t, k));
            case 2 -> {
                int want = way == null || i < 0 || i >= way.length ? NONE : way[i];
                Due.is(told("place", s, t, k, i), want, ranker.place(s, t, k, i));
            }
            case 3 -> Due.is(told("size", s, t, k), way == null ? NONE : way.length, ranker.size(s, t, k));
            case 4 -> Due.is(told("within", s, t, n), modelWithin(ways, n), ranker.within(s, t, n));
            case 5 -> {
                int want = ways.isEmpty() ? 0 : modelWithin(ways, total(ways.get(0)));
                Due.is(told("shortest", s, t), want, ranker.shortest(s, t));
            }
            case 6 -> Due.is(told("musts", s, t), modelMusts(ways, s, t), ranker.musts(s, t));
            case 7 -> Due.is(told("firstAvoiding", s, t, v), modelFirstAvoiding(ways, s, t, v), ranker.firstAvoiding(s, t, v));
            default -> Due.is(told("detour", s, t, v, w), modelDetour(s, t, v, w), ranker.detour(s, t, v, w));
        }
    }

    private String told(String name, int... arguments) {
        return "run " + run + ": " + name + Arrays.toString(arguments) + " on " + Arrays.deepToString(roads);
    }

    private static boolean isPlace(int v) {
        return 0 <= v && v <= 5;
    }

    private boolean hasRoad(int a, int b) {
        return isPlace(a) && isPlace(b) && roads[a][b] != 0;
    }

    private boolean modelBuild(int a, int b, int length) {
        if (a == b || !isPlace(a) || !isPlace(b) || length < 1 || length > 20) {
            return false;
        }
        roads[a][b] = length;
        return true;
    }

    private int modelRoads() {
        int count = 0;
        for (int[] row : roads) {
            for (int length : row) {
                count += length == 0 ? 0 : 1;
            }
        }
        return count;
    }

    private List<int[]> rankedWays(int s, int t) {
        List<int[]> found = new ArrayList<>();
        if (s != t && isPlace(s) && isPlace(t)) {
            walk(new int[] {s}, t, found);
        }
        found.sort((x, y) -> total(x) != total(y) ? Integer.compare(total(x), total(y)) : Arrays.compare(x, y));
        return found;
    }

    private void walk(int[] trail, int t, List<int[]> found) {
        int last = trail[trail.length - 1];
        if (last == t) {
            found.add(trail);
            return;
        }
        // Backwards, so that the order found is not by chance the order asked for.
        for (int v = PLACES - 1; v >= 0; v--) {
            if (hasRoad(last, v) && !holds(trail, v)) {
                int[] longer = Arrays.copyOf(trail, trail.length + 1);
                longer[trail.length] = v;
                walk(longer, t, found);
            }
        }
    }

    private static boolean holds(int[] way, int v) {
        for (int place : way) {
            if (place == v) {
                return true;
            }
        }
        return false;
    }

    private int total(int[] way) {
        int sum = 0;
        for (int i = 1; i < way.length; i++) {
            sum += roads[way[i - 1]][way[i]];
        }
        return sum;
    }

    private int modelWithin(List<int[]> ways, int n) {
        int count = 0;
        for (int[] way : ways) {
            count += total(way) <= n ? 1 : 0;
        }
        return count;
    }

    private static int modelMusts(List<int[]> ways, int s, int t) {
        int bits = 0;
        for (int v = 0; v < PLACES; v++) {
            boolean onAll = !ways.isEmpty() && v != s && v != t;
            for (int[] way : ways) {
                onAll &= holds(way, v);
            }
            bits += onAll ? 1 << v : 0;
        }
        return bits;
    }

    private static int modelFirstAvoiding(List<int[]> ways, int s, int t, int v) {
        if (v == s || v == t || !isPlace(v)) {
            return NONE;
        }
        for (int k = 0; k < ways.size(); k++) {
            if (!holds(ways.get(k), v)) {
                return k;
            }
        }
        return NONE;
    }

    private int modelDetour(int s, int t, int a, int b) {
        List<int[]> before = rankedWays(s, t);
        if (!hasRoad(a, b) || before.isEmpty()) {
            return 0;
        }
        int least = total(before.get(0));
        int length = roads[a][b];
        roads[a][b] = 0;
        List<int[]> after = rankedWays(s, t);
        int answer = after.isEmpty() ? NONE : total(after.get(0)) - least;
        roads[a][b] = length;
        return answer;
    }
}
