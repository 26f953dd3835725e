/**
 * Ranks the ways through a small network.
 *
 * <p>A way is packed into one int: its length in the high bits, below it six slots of three bits
 * for its places, the first place highest, and unused slots filled with EMPTY. Comparing two such
 * ints compares the lengths first and then the places in dictionary order, which is the rank order.
 */
public final class PathRanker {
    public static final int NONE = -1;

    private static final int PLACES = 6;
    private static final int PLACE_PAIRS = 36;
    private static final int NO_ROAD = 0;
    private static final int LONGEST_ROAD = 20;

    // With every road built, 1 + 4 + 12 + 24 + 24 choices of places can lie between s and t.
    private static final int MOST_WAYS = 65;

    private static final int SLOT_BITS = 3;
    private static final int SLOT_MASK = 7;
    private static final int EMPTY = 7;
    // The first place takes the highest slot, so that comparing ints goes in dictionary order.
    private static final int FIRST_SLOT_SHIFT = 15;
    private static final int LENGTH_SHIFT = 18;
    private static final int ALL_SLOTS_EMPTY = (1 << LENGTH_SHIFT) - 1;

    private final int[] roadLengths = new int[PLACE_PAIRS];

    // Scratch of the latest ranking. A trail is a way's beginning that has not yet come to t, so
    // there are at most as many of them as ways: going on to t ends each in a different way.
    private final int[] trails = new int[MOST_WAYS];
    private int trailCount;
    private final int[] ranked = new int[MOST_WAYS];
    private int rankedCount;

    public PathRanker() {
        // A new array holds NO_ROAD for every pair already.
    }

    public boolean build(int a, int b, int length) {
        if (!isPair(a, b) || length < 1 || length > LONGEST_ROAD) {
            return false;
        }
        roadLengths[a * PLACES + b] = length;
        return true;
    }

    public boolean close(int a, int b) {
        if (road(a, b) == NONE) {
            return false;
        }
        roadLengths[a * PLACES + b] = NO_ROAD;
        return true;
    }

    public int road(int a, int b) {
        if (!isPair(a, b)) {
            return NONE;
        }
        int length = roadLengths[a * PLACES + b];
        return length == NO_ROAD ? NONE : length;
    }

    public int roads() {
        int count = 0;
        for (int pair = 0; pair < PLACE_PAIRS; pair++) {
            if (roadLengths[pair] != NO_ROAD) {
                count++;
            }
        }
        return count;
    }

    public int ways(int s, int t) {
        rankWays(s, t);
        return rankedCount;
    }

    public int length(int s, int t, int k) {
        rankWays(s, t);
        return hasRank(k) ? lengthOf(ranked[k]) : NONE;
    }

    public int place(int s, int t, int k, int i) {
        rankWays(s, t);
        if (!hasRank(k) || i < 0 || i >= sizeOf(ranked[k])) {
            return NONE;
        }
        return placeAt(ranked[k], i);
    }

    public int size(int s, int t, int k) {
        rankWays(s, t);
        return hasRank(k) ? sizeOf(ranked[k]) : NONE;
    }

    public int within(int s, int t, int n) {
        rankWays(s, t);
        return countUpTo(n);
    }

    public int shortest(int s, int t) {
        rankWays(s, t);
        if (rankedCount == 0) {
            return 0;
        }
        int least = lengthOf(ranked[0]);
        return countUpTo(least);
    }

    public int musts(int s, int t) {
        rankWays(s, t);
        if (rankedCount == 0) {
            return 0;
        }
        int places = 0;
        for (int v = 0; v < PLACES; v++) {
            if (v != s && v != t && firstWithout(v) == NONE) {
                places |= 1 << v;
            }
        }
        return places;
    }

    public int firstAvoiding(int s, int t, int v) {
        if (!isPlace(v) || v == s || v == t) {
            return NONE;
        }
        rankWays(s, t);
        return firstWithout(v);
    }

    public int detour(int s, int t, int a, int b) {
        if (road(a, b) == NONE) {
            return 0;
        }
        rankWays(s, t);
        if (rankedCount == 0) {
            return 0;
        }
        // The ways that would be left are those that do not take the road, in the same order.
        int left = firstNotTaking(a, b);
        return left == NONE ? NONE : lengthOf(ranked[left]) - lengthOf(ranked[0]);
    }

    private static boolean isPlace(int v) {
        return v >= 0 && v < PLACES;
    }

    private static boolean isPair(int a, int b) {
        return isPlace(a) && isPlace(b) && a != b;
    }

    private void rankWays(int s, int t) {
        trailCount = 0;
        rankedCount = 0;
        if (!isPair(s, t)) {
            return;
        }
        int start = withPlace(ALL_SLOTS_EMPTY, 0, s);
        addTrail(start);
        // extendTrail adds to the list while it is walked; MOST_WAYS bounds both.
        for (int i = 0; i < MOST_WAYS && i < trailCount; i++) {
            extendTrail(trails[i], t);
        }
    }

    private void extendTrail(int trail, int t) {
        int size = sizeOf(trail);
        int last = placeAt(trail, size - 1);
        for (int v = 0; v < PLACES; v++) {
            int step = road(last, v);
            if (step == NONE || comesThrough(trail, v)) {
                continue;
            }
            int longer = withPlace(trail, size, v) + (step << LENGTH_SHIFT);
            if (v == t) {
                addRanked(longer);
            } else {
                addTrail(longer);
            }
        }
    }

    private void addTrail(int trail) {
        if (trailCount < MOST_WAYS) {
            trails[trailCount] = trail;
            trailCount++;
        }
    }

    private void addRanked(int way) {
        if (rankedCount >= MOST_WAYS) {
            return;
        }
        int at = rankedCount;
        for (; at > 0 && ranked[at - 1] > way; at--) {
            ranked[at] = ranked[at - 1];
        }
        ranked[at] = way;
        rankedCount++;
    }

    private boolean hasRank(int k) {
        return k >= 0 && k < rankedCount;
    }

    private int countUpTo(int most) {
        int count = 0;
        for (int k = 0; k < rankedCount; k++) {
            if (lengthOf(ranked[k]) <= most) {
                count++;
            }
        }
        return count;
    }

    private int firstWithout(int v) {
        for (int k = 0; k < rankedCount; k++) {
            if (!comesThrough(ranked[k], v)) {
                return k;
            }
        }
        return NONE;
    }

    private int firstNotTaking(int a, int b) {
        for (int k = 0; k < rankedCount; k++) {
            if (!takesRoad(ranked[k], a, b)) {
                return k;
            }
        }
        return NONE;
    }

    private static int lengthOf(int way) {
        return way >> LENGTH_SHIFT;
    }

    private static int sizeOf(int way) {
        int size = 0;
        for (int i = 0; i < PLACES; i++) {
            if (placeAt(way, i) != EMPTY) {
                size++;
            }
        }
        return size;
    }

    private static int placeAt(int way, int i) {
        return (way >> (FIRST_SLOT_SHIFT - SLOT_BITS * i)) & SLOT_MASK;
    }

    private static int withPlace(int way, int i, int v) {
        int shift = FIRST_SLOT_SHIFT - SLOT_BITS * i;
        return (way & ~(SLOT_MASK << shift)) | (v << shift);
    }

    private static boolean comesThrough(int way, int v) {
        for (int i = 0; i < PLACES; i++) {
            if (placeAt(way, i) == v) {
                return true;
            }
        }
        return false;
    }

    private static boolean takesRoad(int way, int a, int b) {
        for (int i = 0; i < PLACES - 1; i++) {
            if (placeAt(way, i) == a && placeAt(way, i + 1) == b) {
                return true;
            }
        }
        return false;
    }
}
