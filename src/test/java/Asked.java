import java.util.Arrays;

/**
 * A PathRanker of which every answer is compared with the one that is due:
 * {@code x.due(4).ways(0, 3)}. It also sees to it that no test leans on an answer that the document
 * leaves free, after the last call that an object is used for.
 */
final class Asked {
    static final int NONE = -1;
    static final int PLACES = 6;
    static final int MOST_CALLS = 512;

    // Enough of the changes before a wrong answer for the full network.
    private static final int MOST_TOLD = 600;

    /**
     * Numbers beside the places, and numbers that would pass for a place if they were cut to fewer
     * bits (32, 37, 256, 65536), used as a shift (32, 37), or multiplied by six with wrap-around
     * (Integer.MIN_VALUE gives 0, 715827883 gives 2, -715827882 gives 4).
     */
    static final int[] NOT_PLACES = {
        -1, 6, 7, 8, -2, -5, -6, 12, 32, 36, 37, 256, 65536, 715827883, -715827882,
        Integer.MIN_VALUE, Integer.MIN_VALUE + 1, Integer.MAX_VALUE, Integer.MAX_VALUE - 1};

    private final PathRanker ranker = new PathRanker();
    private final StringBuilder changes = new StringBuilder();
    private int calls = 0;
    private int want = 0;

    /** Roads are given as a, b, length one after the other. */
    static Asked network(int... roads) {
        Asked x = new Asked();
        for (int i = 0; i < roads.length; i += 3) {
            x.due(true).build(roads[i], roads[i + 1], roads[i + 2]);
        }
        return x;
    }

    /** A road of this length between any two places, in each direction. */
    static Asked full(int length) {
        Asked x = new Asked();
        for (int a = 0; a < PLACES; a++) {
            for (int b = 0; b < PLACES; b++) {
                if (a != b) {
                    x.due(true).build(a, b, length);
                }
            }
        }
        return x;
    }

    /**
     * From 0 to 3 in rank order: 0 1 3 (4), 0 2 3 (4), 0 1 2 3 (5), 0 3 (7).
     * Place 4 leads nowhere, place 5 only leads in.
     */
    static Asked diamond() {
        return network(0, 1, 2, 1, 3, 2, 0, 2, 3, 2, 3, 1, 1, 2, 2, 0, 3, 7, 0, 4, 1, 5, 0, 6);
    }

    static boolean isPlace(int v) {
        return v >= 0 && v <= 5;
    }

    Asked due(int answer) {
        want = answer;
        return this;
    }

    Asked due(boolean answer) {
        return due(answer ? 1 : 0);
    }

    int calls() {
        return calls;
    }

    void build(int a, int b, int length) {
        boolean got = ranker.build(a, b, length);
        tell(got ? 1 : 0, "build", a, b, length);
        changes.append(" build").append(Arrays.toString(new int[] {a, b, length}));
    }

    void close(int a, int b) {
        boolean got = ranker.close(a, b);
        tell(got ? 1 : 0, "close", a, b);
        changes.append(" close").append(Arrays.toString(new int[] {a, b}));
    }

    void road(int a, int b) {
        tell(ranker.road(a, b), "road", a, b);
    }

    void roads() {
        tell(ranker.roads(), "roads");
    }

    void ways(int s, int t) {
        tell(ranker.ways(s, t), "ways", s, t);
    }

    void length(int s, int t, int k) {
        tell(ranker.length(s, t, k), "length", s, t, k);
    }

    void place(int s, int t, int k, int i) {
        tell(ranker.place(s, t, k, i), "place", s, t, k, i);
    }

    void size(int s, int t, int k) {
        tell(ranker.size(s, t, k), "size", s, t, k);
    }

    void within(int s, int t, int n) {
        tell(ranker.within(s, t, n), "within", s, t, n);
    }

    void shortest(int s, int t) {
        tell(ranker.shortest(s, t), "shortest", s, t);
    }

    void musts(int s, int t) {
        tell(ranker.musts(s, t), "musts", s, t);
    }

    void firstAvoiding(int s, int t, int v) {
        tell(ranker.firstAvoiding(s, t, v), "firstAvoiding", s, t, v);
    }

    void detour(int s, int t, int a, int b) {
        tell(ranker.detour(s, t, a, b), "detour", s, t, a, b);
    }

    /** The way with rank k has these places, no more, and this length. Makes 10 calls. */
    void isWay(int k, int length, int... places) {
        int s = places[0];
        int t = places[places.length - 1];
        due(length).length(s, t, k);
        due(places.length).size(s, t, k);
        for (int i = -1; i <= PLACES; i++) {
            due(i >= 0 && i < places.length ? places[i] : NONE).place(s, t, k, i);
        }
    }

    /** There are exactly these roads, given as for network, and no others. Makes 37 calls. */
    void hasRoads(int... roads) {
        int[][] lengths = new int[PLACES][PLACES];
        for (int[] row : lengths) {
            Arrays.fill(row, NONE);
        }
        for (int i = 0; i < roads.length; i += 3) {
            lengths[roads[i]][roads[i + 1]] = roads[i + 2];
        }
        due(roads.length / 3).roads();
        for (int a = 0; a < PLACES; a++) {
            for (int b = 0; b < PLACES; b++) {
                due(lengths[a][b]).road(a, b);
            }
        }
    }

    /** Every question about ways gets the answer for no way. Makes 12 calls. */
    void hasNoWay(int s, int t) {
        due(0).ways(s, t);
        due(NONE).length(s, t, 0);
        due(NONE).place(s, t, 0, 0);
        due(NONE).size(s, t, 0);
        due(0).within(s, t, Integer.MAX_VALUE);
        due(0).shortest(s, t);
        due(0).musts(s, t);
        for (int v = 0; v < 4; v++) {
            due(NONE).firstAvoiding(s, t, v);
        }
        due(0).detour(s, t, 0, 1);
    }

    private void tell(int got, String name, int... arguments) {
        calls++;
        if (calls > MOST_CALLS) {
            throw new IllegalStateException("the test makes more than " + MOST_CALLS + " calls on one object");
        }
        Due.is(name + Arrays.toString(arguments) + " after" + latestChanges(), want, got);
    }

    private String latestChanges() {
        int from = changes.length() - MOST_TOLD;
        return from <= 0 ? changes.toString() : " .." + changes.substring(from);
    }
}
