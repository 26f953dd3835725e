/** Each promise of the document by itself: ordinary inputs, the named edges, and wrong inputs. */
public final class PromisesTest {
    private static final int NONE = -1;
    private static final int PLACES = 6;
    private static final int[] NOT_PLACES = {-1, 6, 7, -6, 36, Integer.MIN_VALUE, Integer.MAX_VALUE};

    public static void main(String[] args) {
        newObject();
        build();
        buildRefuses();
        close();
        road();
        roads();
        ways();
        waysOfFullNetwork();
        length();
        place();
        placeOfEqualLengths();
        size();
        within();
        shortest();
        musts();
        firstAvoiding();
        detour();
        detourChangesNothing();
        objectsAreApart();
        Due.end();
    }

    /** Roads are given as a, b, length one after the other. */
    private static PathRanker network(int... roads) {
        PathRanker x = new PathRanker();
        for (int i = 0; i < roads.length; i += 3) {
            Due.is("network: build", true, x.build(roads[i], roads[i + 1], roads[i + 2]));
        }
        return x;
    }

    private static PathRanker fullNetwork(int length) {
        PathRanker x = new PathRanker();
        for (int a = 0; a < PLACES; a++) {
            for (int b = 0; b < PLACES; b++) {
                if (a != b) {
                    Due.is("full network: build", true, x.build(a, b, length));
                }
            }
        }
        return x;
    }

    /**
     * From 0 to 3 in rank order: 0 1 3 (4), 0 2 3 (4), 0 1 2 3 (5), 0 3 (7).
     * Place 4 leads nowhere, place 5 only leads in.
     */
    private static PathRanker diamond() {
        return network(0, 1, 2, 1, 3, 2, 0, 2, 3, 2, 3, 1, 1, 2, 2, 0, 3, 7, 0, 4, 1, 5, 0, 6);
    }

    private static void newObject() {
        PathRanker x = new PathRanker();
        Due.is("1: roads()", 0, x.roads());
        for (int a = 0; a < PLACES; a++) {
            for (int b = 0; b < PLACES; b++) {
                Due.is("1: road(" + a + ", " + b + ")", NONE, x.road(a, b));
                Due.is("1: ways(" + a + ", " + b + ")", 0, x.ways(a, b));
                Due.is("1: close(" + a + ", " + b + ")", false, x.close(a, b));
            }
        }
    }

    private static void build() {
        PathRanker x = new PathRanker();
        Due.is("2: build least length", true, x.build(0, 5, 1));
        Due.is("2: build greatest length", true, x.build(5, 0, 20));
        Due.is("2: road(0, 5)", 1, x.road(0, 5));
        Due.is("2: road(5, 0)", 20, x.road(5, 0));
        Due.is("2: build in place of another", true, x.build(0, 5, 7));
        Due.is("2: road(0, 5) replaced", 7, x.road(0, 5));
        Due.is("2: road(5, 0) untouched", 20, x.road(5, 0));
        Due.is("2: build the same again", true, x.build(0, 5, 7));
        Due.is("2: roads() after replacing", 2, x.roads());
        Due.is("2: length sees the replaced road", 7, x.length(0, 5, 0));
    }

    private static void buildRefuses() {
        PathRanker x = network(2, 3, 9);
        for (int v = 0; v < PLACES; v++) {
            Due.is("2: build a = b", false, x.build(v, v, 5));
            for (int no : NOT_PLACES) {
                Due.is("2: build(" + v + ", " + no + ", 5)", false, x.build(v, no, 5));
                Due.is("2: build(" + no + ", " + v + ", 5)", false, x.build(no, v, 5));
            }
        }
        int[] notLengths = {0, 21, -1, -20, Integer.MIN_VALUE, Integer.MAX_VALUE};
        for (int length : notLengths) {
            Due.is("2: build(2, 3, " + length + ")", false, x.build(2, 3, length));
            Due.is("2: build(3, 2, " + length + ")", false, x.build(3, 2, length));
        }
        Due.is("2: roads() after refusals", 1, x.roads());
        Due.is("2: road(2, 3) after refusals", 9, x.road(2, 3));
        Due.is("2: road(3, 2) after refusals", NONE, x.road(3, 2));
    }

    private static void close() {
        PathRanker x = network(1, 2, 3, 2, 1, 4);
        Due.is("3: close(0, 1) without a road", false, x.close(0, 1));
        Due.is("3: close(1, 1)", false, x.close(1, 1));
        for (int no : NOT_PLACES) {
            Due.is("3: close(1, " + no + ")", false, x.close(1, no));
            Due.is("3: close(" + no + ", 2)", false, x.close(no, 2));
        }
        Due.is("3: roads() after refusals", 2, x.roads());
        Due.is("3: close(1, 2)", true, x.close(1, 2));
        Due.is("3: road(1, 2) closed", NONE, x.road(1, 2));
        Due.is("3: ways(1, 2) closed", 0, x.ways(1, 2));
        Due.is("3: road(2, 1) stays", 4, x.road(2, 1));
        Due.is("3: close(1, 2) again", false, x.close(1, 2));
        Due.is("3: build(1, 2, 6) anew", true, x.build(1, 2, 6));
        Due.is("3: road(1, 2) anew", 6, x.road(1, 2));
    }

    private static void road() {
        PathRanker x = new PathRanker();
        for (int a = 0; a < PLACES; a++) {
            for (int b = 0; b < PLACES; b++) {
                x.build(a, b, 1 + (a * 7 + b * 5) % 20);
            }
        }
        for (int a = 0; a < PLACES; a++) {
            for (int b = 0; b < PLACES; b++) {
                int want = a == b ? NONE : 1 + (a * 7 + b * 5) % 20;
                Due.is("4: road(" + a + ", " + b + ")", want, x.road(a, b));
            }
            for (int no : NOT_PLACES) {
                Due.is("4: road(" + a + ", " + no + ")", NONE, x.road(a, no));
                Due.is("4: road(" + no + ", " + a + ")", NONE, x.road(no, a));
            }
        }
        PathRanker one = network(0, 1, 2);
        Due.is("4: road goes one way", NONE, one.road(1, 0));
        Due.is("4: no road by way of others", NONE, network(0, 1, 2, 1, 2, 2).road(0, 2));
    }

    private static void roads() {
        PathRanker x = new PathRanker();
        int want = 0;
        for (int a = 0; a < PLACES; a++) {
            for (int b = 0; b < PLACES; b++) {
                want += a == b ? 0 : 1;
                x.build(a, b, 20);
                Due.is("5: roads() growing", want, x.roads());
            }
        }
        Due.is("5: all roads", 30, x.roads());
        x.close(0, 1);
        Due.is("5: roads() after close", 29, x.roads());
        x.close(0, 1);
        Due.is("5: roads() after close of none", 29, x.roads());
    }

    private static void ways() {
        PathRanker x = diamond();
        Due.is("6: ways(0, 3)", 4, x.ways(0, 3));
        Due.is("6: ways(1, 3)", 2, x.ways(1, 3));
        Due.is("6: ways(5, 3)", 4, x.ways(5, 3));
        Due.is("6: ways(3, 0)", 0, x.ways(3, 0));
        Due.is("6: ways(4, 3)", 0, x.ways(4, 3));
        for (int v = 0; v < PLACES; v++) {
            Due.is("6: ways(v, v)", 0, x.ways(v, v));
            for (int no : NOT_PLACES) {
                Due.is("6: ways(" + v + ", " + no + ")", 0, x.ways(v, no));
                Due.is("6: ways(" + no + ", " + v + ")", 0, x.ways(no, v));
            }
        }
        PathRanker circle = network(0, 1, 1, 1, 0, 1, 1, 2, 1, 2, 0, 1);
        Due.is("6: places of a way are different", 1, circle.ways(0, 2));
        Due.is("6: no way round to the start", 0, circle.ways(0, 0));
        // A way cannot go through its end and come back to it.
        Due.is("6: a way ends at t", 1, network(0, 1, 1, 1, 2, 1, 2, 1, 1).ways(0, 1));
    }

    private static void waysOfFullNetwork() {
        PathRanker x = fullNetwork(20);
        for (int s = 0; s < PLACES; s++) {
            for (int t = 0; t < PLACES; t++) {
                Due.is("6: full ways(" + s + ", " + t + ")", s == t ? 0 : 65, x.ways(s, t));
                Due.is("7: full, last length", s == t ? NONE : 100, x.length(s, t, 64));
                Due.is("7: full, after the last", NONE, x.length(s, t, 65));
                Due.is("9: full, last size", s == t ? NONE : 6, x.size(s, t, 64));
            }
        }
    }

    private static void length() {
        PathRanker x = diamond();
        int[] want = {4, 4, 5, 7, NONE, NONE};
        for (int k = 0; k < want.length; k++) {
            Due.is("7: length(0, 3, " + k + ")", want[k], x.length(0, 3, k));
        }
        int[] notRanks = {-1, 4, 65, 66, Integer.MIN_VALUE, Integer.MAX_VALUE};
        for (int k : notRanks) {
            Due.is("7: length(0, 3, " + k + ")", NONE, x.length(0, 3, k));
        }
        Due.is("7: length(3, 0, 0)", NONE, x.length(3, 0, 0));
        Due.is("7: length(0, 0, 0)", NONE, x.length(0, 0, 0));
        for (int no : NOT_PLACES) {
            Due.is("7: length(0, " + no + ", 0)", NONE, x.length(0, no, 0));
            Due.is("7: length(" + no + ", 3, 0)", NONE, x.length(no, 3, 0));
        }
        // The many short roads come before the one long road.
        PathRanker line = network(5, 0, 20, 5, 4, 1, 4, 3, 1, 3, 2, 1, 2, 1, 1, 1, 0, 1);
        Due.is("7: least first", 5, line.length(5, 0, 0));
        Due.is("7: greatest last", 20, line.length(5, 0, 1));
    }

    private static void place() {
        PathRanker x = diamond();
        int[][] want = {{0, 1, 3}, {0, 2, 3}, {0, 1, 2, 3}, {0, 3}};
        for (int k = 0; k < want.length; k++) {
            for (int i = 0; i < 8; i++) {
                int due = i < want[k].length ? want[k][i] : NONE;
                Due.is("8: place(0, 3, " + k + ", " + i + ")", due, x.place(0, 3, k, i));
            }
            Due.is("8: place before the first", NONE, x.place(0, 3, k, -1));
            Due.is("8: place far before", NONE, x.place(0, 3, k, Integer.MIN_VALUE));
            Due.is("8: place far behind", NONE, x.place(0, 3, k, Integer.MAX_VALUE));
        }
        int[] notRanks = {-1, 4, 65, Integer.MIN_VALUE, Integer.MAX_VALUE};
        for (int k : notRanks) {
            Due.is("8: place(0, 3, " + k + ", 0)", NONE, x.place(0, 3, k, 0));
        }
        Due.is("8: place(3, 0, 0, 0)", NONE, x.place(3, 0, 0, 0));
        Due.is("8: place(2, 2, 0, 0)", NONE, x.place(2, 2, 0, 0));
        for (int no : NOT_PLACES) {
            Due.is("8: place(0, " + no + ", 0, 0)", NONE, x.place(0, no, 0, 0));
            Due.is("8: place(" + no + ", 3, 0, 0)", NONE, x.place(no, 3, 0, 0));
        }
    }

    /** With equal lengths the dictionary order decides, not the number of places. */
    private static void placeOfEqualLengths() {
        PathRanker x = network(0, 5, 4, 0, 4, 2, 4, 5, 2, 0, 1, 1, 1, 2, 1, 2, 3, 1, 3, 5, 1, 1, 5, 3);
        int[][] want = {{0, 1, 2, 3, 5}, {0, 1, 5}, {0, 4, 5}, {0, 5}};
        Due.is("8: equal lengths, ways", want.length, x.ways(0, 5));
        for (int k = 0; k < want.length; k++) {
            Due.is("8: equal lengths, length", 4, x.length(0, 5, k));
            Due.is("8: equal lengths, size", want[k].length, x.size(0, 5, k));
            for (int i = 0; i < want[k].length; i++) {
                Due.is("8: equal lengths, place " + k + " " + i, want[k][i], x.place(0, 5, k, i));
            }
        }
        // Here the end is less than the other places, so the short way comes first.
        PathRanker y = network(5, 0, 4, 5, 1, 2, 1, 0, 2);
        Due.is("8: short way first", 2, y.size(5, 0, 0));
        Due.is("8: long way second", 3, y.size(5, 0, 1));
    }

    private static void size() {
        PathRanker x = diamond();
        int[] want = {3, 3, 4, 2, NONE};
        for (int k = 0; k < want.length; k++) {
            Due.is("9: size(0, 3, " + k + ")", want[k], x.size(0, 3, k));
        }
        int[] notRanks = {-1, 4, 65, Integer.MIN_VALUE, Integer.MAX_VALUE};
        for (int k : notRanks) {
            Due.is("9: size(0, 3, " + k + ")", NONE, x.size(0, 3, k));
        }
        Due.is("9: size(3, 0, 0)", NONE, x.size(3, 0, 0));
        Due.is("9: size(1, 1, 0)", NONE, x.size(1, 1, 0));
        for (int no : NOT_PLACES) {
            Due.is("9: size(0, " + no + ", 0)", NONE, x.size(0, no, 0));
            Due.is("9: size(" + no + ", 3, 0)", NONE, x.size(no, 3, 0));
        }
    }

    private static void within() {
        PathRanker x = diamond();
        int[] want = {0, 0, 0, 0, 2, 3, 3, 4, 4};
        for (int n = 0; n < want.length; n++) {
            Due.is("10: within(0, 3, " + n + ")", want[n], x.within(0, 3, n));
        }
        Due.is("10: within, n below 0", 0, x.within(0, 3, -1));
        Due.is("10: within, least n", 0, x.within(0, 3, Integer.MIN_VALUE));
        Due.is("10: within, greatest n", 4, x.within(0, 3, Integer.MAX_VALUE));
        Due.is("10: within, no way", 0, x.within(3, 0, 100));
        Due.is("10: within, s = t", 0, x.within(3, 3, 100));
        for (int no : NOT_PLACES) {
            Due.is("10: within(0, " + no + ", 100)", 0, x.within(0, no, 100));
            Due.is("10: within(" + no + ", 3, 100)", 0, x.within(no, 3, 100));
        }
        PathRanker full = fullNetwork(20);
        int[] counts = {0, 1, 5, 17, 41, 65};
        for (int steps = 0; steps < counts.length; steps++) {
            Due.is("10: full, " + steps + " steps", counts[steps], full.within(4, 1, 20 * steps));
        }
    }

    private static void shortest() {
        PathRanker x = diamond();
        Due.is("11: shortest(0, 3)", 2, x.shortest(0, 3));
        Due.is("11: shortest(1, 3)", 1, x.shortest(1, 3));
        Due.is("11: shortest(5, 3)", 2, x.shortest(5, 3));
        Due.is("11: shortest(3, 0)", 0, x.shortest(3, 0));
        Due.is("11: shortest(0, 0)", 0, x.shortest(0, 0));
        for (int no : NOT_PLACES) {
            Due.is("11: shortest(0, " + no + ")", 0, x.shortest(0, no));
            Due.is("11: shortest(" + no + ", 3)", 0, x.shortest(no, 3));
        }
    }

    private static void musts() {
        PathRanker line = network(0, 1, 1, 1, 2, 1, 2, 3, 1, 3, 4, 1, 4, 5, 1);
        Due.is("12: musts(0, 5)", 2 + 4 + 8 + 16, line.musts(0, 5));
        Due.is("12: musts(1, 3)", 4, line.musts(1, 3));
        Due.is("12: musts(2, 3)", 0, line.musts(2, 3));
        Due.is("12: musts(5, 0), no way", 0, line.musts(5, 0));
        Due.is("12: musts(3, 3)", 0, line.musts(3, 3));
        for (int no : NOT_PLACES) {
            Due.is("12: musts(0, " + no + ")", 0, line.musts(0, no));
            Due.is("12: musts(" + no + ", 5)", 0, line.musts(no, 5));
        }
        PathRanker x = diamond();
        Due.is("12: musts(0, 3)", 0, x.musts(0, 3));
        Due.is("12: musts(5, 3)", 1, x.musts(5, 3));
        PathRanker back = network(0, 5, 1, 5, 1, 1, 1, 2, 1);
        Due.is("12: musts(0, 2)", 2 + 32, back.musts(0, 2));
        // A way that is not shortest counts as well.
        back.build(0, 2, 20);
        Due.is("12: musts(0, 2) with a long road", 0, back.musts(0, 2));
    }

    private static void firstAvoiding() {
        PathRanker x = diamond();
        Due.is("13: firstAvoiding(0, 3, 1)", 1, x.firstAvoiding(0, 3, 1));
        Due.is("13: firstAvoiding(0, 3, 2)", 0, x.firstAvoiding(0, 3, 2));
        Due.is("13: firstAvoiding(0, 3, 4)", 0, x.firstAvoiding(0, 3, 4));
        Due.is("13: firstAvoiding(5, 3, 0)", NONE, x.firstAvoiding(5, 3, 0));
        Due.is("13: v is s", NONE, x.firstAvoiding(0, 3, 0));
        Due.is("13: v is t", NONE, x.firstAvoiding(0, 3, 3));
        Due.is("13: no way", NONE, x.firstAvoiding(3, 0, 1));
        Due.is("13: s = t", NONE, x.firstAvoiding(0, 0, 1));
        for (int no : NOT_PLACES) {
            Due.is("13: firstAvoiding(0, 3, " + no + ")", NONE, x.firstAvoiding(0, 3, no));
            Due.is("13: firstAvoiding(0, " + no + ", 1)", NONE, x.firstAvoiding(0, no, 1));
            Due.is("13: firstAvoiding(" + no + ", 3, 1)", NONE, x.firstAvoiding(no, 3, 1));
        }
        x.close(0, 2);
        Due.is("13: firstAvoiding(0, 3, 1) after close", 2, x.firstAvoiding(0, 3, 1));
        x.close(0, 3);
        Due.is("13: firstAvoiding(0, 3, 1) without any", NONE, x.firstAvoiding(0, 3, 1));
    }

    private static void detour() {
        PathRanker x = diamond();
        Due.is("14: an equal way is left", 0, x.detour(0, 3, 0, 1));
        Due.is("14: road on no shortest way", 0, x.detour(0, 3, 0, 3));
        Due.is("14: road on no way", 0, x.detour(0, 3, 0, 4));
        Due.is("14: no such road", 0, x.detour(0, 3, 3, 0));
        Due.is("14: a = b", 0, x.detour(0, 3, 1, 1));
        Due.is("14: no way", 0, x.detour(3, 0, 0, 1));
        Due.is("14: s = t", 0, x.detour(0, 0, 0, 1));
        Due.is("14: grows", 1, x.detour(1, 3, 1, 3));
        Due.is("14: no way any more", NONE, x.detour(5, 3, 5, 0));
        for (int no : NOT_PLACES) {
            Due.is("14: detour(0, 3, 0, " + no + ")", 0, x.detour(0, 3, 0, no));
            Due.is("14: detour(0, 3, 3, " + no + ")", 0, x.detour(0, 3, 3, no));
            Due.is("14: detour(0, 3, " + no + ", 3)", 0, x.detour(0, 3, no, 3));
            Due.is("14: detour(0, 3, " + no + ", " + no + ")", 0, x.detour(0, 3, no, no));
            Due.is("14: detour(0, " + no + ", 0, 1)", 0, x.detour(0, no, 0, 1));
            Due.is("14: detour(" + no + ", 3, 0, 1)", 0, x.detour(no, 3, 0, 1));
        }
        x.close(0, 2);
        Due.is("14: grows by a long road", 3, x.detour(0, 3, 0, 1));
        Due.is("14: the second way is near", 1, x.detour(0, 3, 1, 3));
        // Coming through both places is not taking the road between them.
        PathRanker y = network(0, 1, 1, 1, 4, 1, 4, 2, 1, 2, 3, 1, 1, 2, 9);
        Due.is("14: both places, not the road", 0, y.detour(0, 3, 1, 2));
        PathRanker wide = network(0, 5, 1, 0, 1, 20, 1, 2, 20, 2, 3, 20, 3, 4, 20, 4, 5, 20);
        Due.is("14: the greatest growth", 99, wide.detour(0, 5, 0, 5));
        wide.close(0, 5);
        for (int v = 0; v < 5; v++) {
            Due.is("14: every road of the longest way", NONE, wide.detour(0, 5, v, v + 1));
        }
    }

    private static void detourChangesNothing() {
        PathRanker x = diamond();
        x.detour(0, 3, 0, 1);
        x.detour(5, 3, 5, 0);
        Due.is("14: roads() after detour", 8, x.roads());
        Due.is("14: road(0, 1) after detour", 2, x.road(0, 1));
        Due.is("14: road(5, 0) after detour", 6, x.road(5, 0));
        Due.is("14: ways(5, 3) after detour", 4, x.ways(5, 3));
    }

    private static void objectsAreApart() {
        PathRanker x = network(0, 1, 5);
        PathRanker y = new PathRanker();
        Due.is("1: another object has no roads", 0, y.roads());
        y.build(1, 0, 3);
        Due.is("1: x.road(1, 0)", NONE, x.road(1, 0));
        Due.is("1: x.roads()", 1, x.roads());
    }
}
