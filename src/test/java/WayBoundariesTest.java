/** A test for each sentence on ways that names a boundary case: Terms, promises 6 to 11. */
public final class WayBoundariesTest {
    private static final int NONE = Asked.NONE;
    private static final int PLACES = Asked.PLACES;
    private static final int[] NOT_PLACES = Asked.NOT_PLACES;

    // Ranks, or numbers of places in a way, that are none anywhere. Cut to fewer bits they would be.
    private static final int[] NEVER_RANKS = {
        -1, -2, 65, 66, 128, 256, 257, 65536, 65537, 1 << 24, 1 << 30,
        Integer.MIN_VALUE, Integer.MIN_VALUE + 1, Integer.MAX_VALUE, Integer.MAX_VALUE - 1};
    private static final int[] NEVER_NUMBERS = {
        -1, -2, -5, 6, 7, 8, 10, 11, 16, 32, 33, 64, 256, 65536, 1 << 24, 1 << 30,
        Integer.MIN_VALUE, Integer.MIN_VALUE + 1, Integer.MAX_VALUE, Integer.MAX_VALUE - 1};

    public static void main(String[] args) {
        Due.test("Terms: a way from s to t (s not t)", WayBoundariesTest::noWayToItself);
        Due.test("Terms: of different places", WayBoundariesTest::differentPlaces);
        Due.test("Terms: that begins with s and ends with t", WayBoundariesTest::beginsAndEnds);
        Due.test("Terms: with a road from each place to the next one", WayBoundariesTest::roadFromEachToNext);
        Due.test("Terms: its length is the sum, the least", WayBoundariesTest::leastSum);
        Due.test("Terms: its length is the sum, the greatest", WayBoundariesTest::greatestSum);
        Due.test("Terms: ranked by their lengths, the least first", WayBoundariesTest::leastFirst);
        Due.test("Terms: equal ones by their places, in the dictionary order", WayBoundariesTest::equalLengths);
        Due.test("Terms: equal ones, alike but for the last places", WayBoundariesTest::differLate);
        Due.test("Terms: equal ones, one with more places", WayBoundariesTest::equalLengthsOtherSizes);
        Due.test("Terms: the way with exactly k others before it has rank k", WayBoundariesTest::everyRank);

        Due.test("6: the number of ways, none", WayBoundariesTest::waysNone);
        Due.test("6: the number of ways, all", WayBoundariesTest::waysAll);
        Due.test("6: 0 when s = t", WayBoundariesTest::waysToItself);
        Due.test("6: 0 when s is not 0 .. 5", WayBoundariesTest::waysFromNoPlace);
        Due.test("6: 0 when t is not 0 .. 5", WayBoundariesTest::waysToNoPlace);

        Due.test("7: NONE when there is none, k is below 0", WayBoundariesTest::lengthBelowRanks);
        Due.test("7: NONE when there is none, k is beyond the last rank", WayBoundariesTest::lengthBeyondRanks);
        Due.test("7: NONE when there is none, no way", WayBoundariesTest::lengthNoWay);
        Due.test("7: NONE when there is none, s = t or no place", WayBoundariesTest::lengthNoPair);

        Due.test("8: place number i (0 is s)", WayBoundariesTest::placeZeroIsStart);
        Due.test("8: place number i, the last", WayBoundariesTest::placeLastIsEnd);
        Due.test("8: NONE when there is none, i is below 0", WayBoundariesTest::placeBelowNumbers);
        Due.test("8: NONE when there is none, i is beyond the last place", WayBoundariesTest::placeBeyondNumbers);
        Due.test("8: NONE when there is none, no rank k", WayBoundariesTest::placeNoRank);
        Due.test("8: NONE when there is none, no way", WayBoundariesTest::placeNoWay);
        Due.test("8: NONE when there is none, s = t or no place", WayBoundariesTest::placeNoPair);

        Due.test("9: the number of places, the least", WayBoundariesTest::leastSize);
        Due.test("9: the number of places, the greatest", WayBoundariesTest::greatestSize);
        Due.test("9: NONE when there is none, no rank k", WayBoundariesTest::sizeNoRank);
        Due.test("9: NONE when there is none, no way", WayBoundariesTest::sizeNoWay);
        Due.test("9: NONE when there is none, s = t or no place", WayBoundariesTest::sizeNoPair);

        Due.test("10: at most n long", WayBoundariesTest::withinAtMost);
        Due.test("10: at most n long, n below every length", WayBoundariesTest::withinTooSmall);
        Due.test("10: at most n long, n above every length", WayBoundariesTest::withinTooLarge);
        Due.test("10: the number of ways where there is none", WayBoundariesTest::withinNoWay);

        Due.test("11: that have the least length, one", WayBoundariesTest::shortestOne);
        Due.test("11: that have the least length, all", WayBoundariesTest::shortestAll);
        Due.test("11: that have the least length, as many as can be", WayBoundariesTest::shortestMost);
        Due.test("11: the number of ways where there is none", WayBoundariesTest::shortestNoWay);
        Due.end();
    }

    private static Asked line(int length) {
        return Asked.network(0, 1, length, 1, 2, length, 2, 3, length, 3, 4, length, 4, 5, length);
    }

    private static Asked lineBothDirections() {
        Asked x = line(2);
        for (int v = 0; v < 5; v++) {
            x.due(true).build(v + 1, v, 3);
        }
        return x;
    }

    private static void noWayToItself() {
        for (int v = 0; v < PLACES; v++) {
            Asked.full(1).hasNoWay(v, v);
            lineBothDirections().hasNoWay(v, v);
        }
    }

    private static void differentPlaces() {
        Asked x = lineBothDirections();
        for (int s = 0; s < PLACES; s++) {
            for (int t = 0; t < PLACES; t++) {
                x.due(s == t ? 0 : 1).ways(s, t);
                x.due(s == t ? NONE : Math.abs(s - t) + 1).size(s, t, 0);
            }
        }
        // A round trip on the way would come through place 1 twice.
        Asked round = Asked.network(0, 1, 1, 1, 2, 1, 2, 3, 1, 3, 1, 1, 1, 4, 1);
        round.due(1).ways(0, 4);
        round.isWay(0, 2, 0, 1, 4);
    }

    private static void beginsAndEnds() {
        // Neither coming back to s nor going on behind t makes another way.
        Asked x = Asked.network(0, 1, 1, 1, 0, 1, 1, 2, 1, 2, 1, 1, 2, 0, 1, 0, 2, 1);
        x.due(2).ways(0, 1);
        x.isWay(0, 1, 0, 1);
        x.isWay(1, 2, 0, 2, 1);
        Asked behind = Asked.network(0, 1, 1, 1, 2, 1, 2, 1, 1);
        behind.due(1).ways(0, 1);
        behind.isWay(0, 1, 0, 1);
    }

    private static void roadFromEachToNext() {
        Asked x = line(1);
        for (int s = 0; s < PLACES; s++) {
            for (int t = 0; t < s; t++) {
                x.due(0).ways(s, t);
                x.due(1).ways(t, s);
            }
        }
        x.due(true).close(2, 3);
        x.due(0).ways(0, 5);
        x.due(1).ways(0, 2);
        x.due(1).ways(3, 5);
        // The same road in the other direction does not mend the gap.
        x.due(true).build(3, 2, 1);
        x.due(0).ways(0, 5);
        x.due(true).build(2, 3, 1);
        x.due(1).ways(0, 5);
    }

    private static void leastSum() {
        Asked.network(3, 0, 1).isWay(0, 1, 3, 0);
        line(1).isWay(0, 5, 0, 1, 2, 3, 4, 5);
    }

    private static void greatestSum() {
        Asked.network(3, 0, 20).isWay(0, 20, 3, 0);
        line(20).isWay(0, 100, 0, 1, 2, 3, 4, 5);
        Asked x = Asked.full(20);
        x.isWay(64, 100, 0, 4, 3, 2, 1, 5);
        x.isWay(64, 100, 5, 4, 3, 2, 1, 0);
    }

    private static void leastFirst() {
        // Neither the dictionary order nor the number of places goes before the length.
        Asked x = Asked.network(0, 5, 20, 0, 1, 10, 1, 5, 9, 0, 4, 9, 4, 5, 9, 4, 3, 1, 3, 2, 1, 2, 5, 1);
        x.isWay(0, 12, 0, 4, 3, 2, 5);
        x.isWay(1, 18, 0, 4, 5);
        x.isWay(2, 19, 0, 1, 5);
        x.isWay(3, 20, 0, 5);
        x.due(4).ways(0, 5);
        // A difference of 1 at the greatest lengths.
        Asked y = line(20);
        y.due(true).build(1, 3, 20);
        y.due(true).build(3, 2, 20);
        y.due(true).build(2, 4, 19);
        y.due(true).close(3, 4);
        y.isWay(0, 79, 0, 1, 2, 4, 5);
        y.isWay(1, 99, 0, 1, 3, 2, 4, 5);
        y.due(2).ways(0, 5);
    }

    private static void equalLengths() {
        Asked x = new Asked();
        // Built from the greatest place down, so that the order of building is not the one asked for.
        for (int v = 4; v >= 1; v--) {
            x.due(true).build(0, v, v);
            x.due(true).build(v, 5, 10 - v);
        }
        for (int v = 1; v <= 4; v++) {
            x.isWay(v - 1, 10, 0, v, 5);
        }
        x.due(4).ways(0, 5);
    }

    private static void differLate() {
        Asked x = Asked.network(0, 1, 20, 1, 2, 20, 2, 3, 20, 2, 4, 20, 3, 4, 20, 4, 3, 20, 4, 5, 20, 3, 5, 20);
        x.isWay(0, 80, 0, 1, 2, 3, 5);
        x.isWay(1, 80, 0, 1, 2, 4, 5);
        x.isWay(2, 100, 0, 1, 2, 3, 4, 5);
        x.isWay(3, 100, 0, 1, 2, 4, 3, 5);
        x.due(4).ways(0, 5);
    }

    private static void equalLengthsOtherSizes() {
        // The end is the greatest place: the way with more places comes first.
        Asked x = Asked.network(0, 5, 4, 0, 4, 2, 4, 5, 2, 0, 1, 1, 1, 2, 1, 2, 3, 1, 3, 5, 1, 1, 5, 3);
        x.isWay(0, 4, 0, 1, 2, 3, 5);
        x.isWay(1, 4, 0, 1, 5);
        x.isWay(2, 4, 0, 4, 5);
        x.isWay(3, 4, 0, 5);
        // The end is the least place: the way with fewer places comes first.
        Asked y = Asked.network(5, 0, 4, 5, 1, 2, 1, 0, 2, 1, 2, 1, 2, 0, 1);
        y.isWay(0, 4, 5, 0);
        y.isWay(1, 4, 5, 1, 0);
        y.isWay(2, 4, 5, 1, 2, 0);
        // The end lies between the others.
        Asked z = Asked.network(0, 3, 6, 0, 4, 3, 4, 3, 3, 0, 2, 3, 2, 3, 3);
        z.isWay(0, 6, 0, 2, 3);
        z.isWay(1, 6, 0, 3);
        z.isWay(2, 6, 0, 4, 3);
    }

    /** With equal roads the fewest places come first, and then the dictionary order decides. */
    private static void everyRank() {
        for (int s = 0; s < PLACES; s++) {
            for (int t = 0; t < PLACES; t++) {
                if (s != t) {
                    everyRankOf(s, t);
                }
            }
        }
    }

    private static void everyRankOf(int s, int t) {
        int k = 0;
        int codes = PLACES;
        for (int size = 2; size <= PLACES; size++) {
            codes *= PLACES;
            for (int code = 0; code < codes; code++) {
                int[] places = digits(code, size);
                if (places[0] == s && places[size - 1] == t && allDifferent(places)) {
                    // An object of its own for each rank: isWay makes many calls.
                    Asked.full(20).isWay(k, 20 * (size - 1), places);
                    k++;
                }
            }
        }
        Asked.full(20).due(k).ways(s, t);
    }

    private static int[] digits(int code, int size) {
        int[] places = new int[size];
        int rest = code;
        for (int i = size - 1; i >= 0; i--) {
            places[i] = rest % PLACES;
            rest /= PLACES;
        }
        return places;
    }

    private static boolean allDifferent(int[] places) {
        int seen = 0;
        for (int v : places) {
            seen |= 1 << v;
        }
        return Integer.bitCount(seen) == places.length;
    }

    private static void waysNone() {
        Asked x = Asked.network(0, 1, 1, 2, 1, 1, 2, 3, 1);
        x.due(0).ways(0, 2);
        x.due(0).ways(0, 3);
        x.due(0).ways(1, 0);
        x.due(0).ways(4, 5);
        x.due(1).ways(0, 1);
    }

    private static void waysAll() {
        for (int length = 1; length <= 20; length++) {
            Asked x = Asked.full(length);
            for (int s = 0; s < PLACES; s++) {
                for (int t = 0; t < PLACES; t++) {
                    x.due(s == t ? 0 : 65).ways(s, t);
                }
            }
        }
        Asked x = Asked.full(1);
        x.due(true).close(0, 5);
        x.due(64).ways(0, 5);
        x.due(true).close(5, 0);
        x.due(64).ways(0, 5);
        x.due(true).build(0, 5, 20);
        x.due(65).ways(0, 5);
    }

    private static void waysToItself() {
        for (int v = 0; v < PLACES; v++) {
            Asked x = Asked.full(1);
            // The question before had ways, which must not answer this one.
            x.due(65).ways(v, (v + 1) % PLACES);
            x.due(0).ways(v, v);
            new Asked().due(0).ways(v, v);
            Asked.network(v, (v + 1) % PLACES, 1, (v + 1) % PLACES, v, 1).due(0).ways(v, v);
        }
    }

    private static void waysFromNoPlace() {
        for (int no : NOT_PLACES) {
            Asked x = Asked.full(1);
            x.due(65).ways(0, 1);
            for (int v = 0; v < PLACES; v++) {
                x.due(0).ways(no, v);
            }
        }
    }

    private static void waysToNoPlace() {
        for (int no : NOT_PLACES) {
            Asked x = Asked.full(1);
            x.due(65).ways(0, 1);
            for (int v = 0; v < PLACES; v++) {
                x.due(0).ways(v, no);
            }
            for (int other : NOT_PLACES) {
                x.due(0).ways(other, no);
            }
            x.due(65).ways(0, 1);
        }
    }

    private static void lengthBelowRanks() {
        Asked x = Asked.diamond();
        x.due(4).length(0, 3, 0);
        x.due(NONE).length(0, 3, -1);
        x.due(NONE).length(0, 3, -4);
        x.due(NONE).length(0, 3, Integer.MIN_VALUE);
    }

    private static void lengthBeyondRanks() {
        Asked x = Asked.diamond();
        x.due(7).length(0, 3, 3);
        x.due(NONE).length(0, 3, 4);
        x.due(NONE).length(0, 3, 64);
        Asked full = Asked.full(20);
        full.due(100).length(0, 3, 64);
        for (int k : NEVER_RANKS) {
            x.due(NONE).length(0, 3, k);
            full.due(NONE).length(0, 3, k);
        }
        // Ranks that were there before a road was closed are gone with it.
        x.due(true).close(0, 3);
        x.due(NONE).length(0, 3, 3);
        x.due(5).length(0, 3, 2);
    }

    private static void lengthNoWay() {
        Asked x = Asked.diamond();
        // The question before had ways, which must not answer this one.
        x.due(4).ways(0, 3);
        x.due(NONE).length(3, 0, 0);
        x.due(NONE).length(4, 3, 0);
        x.due(NONE).length(0, 5, 0);
    }

    private static void lengthNoPair() {
        Asked x = Asked.full(3);
        x.due(65).ways(0, 1);
        for (int v = 0; v < PLACES; v++) {
            x.due(NONE).length(v, v, 0);
            for (int no : NOT_PLACES) {
                x.due(NONE).length(v, no, 0);
                x.due(NONE).length(no, v, 0);
            }
        }
    }

    private static void placeZeroIsStart() {
        for (int s = 0; s < PLACES; s++) {
            for (int t = 0; t < PLACES; t++) {
                Asked x = Asked.full(7);
                for (int k = 0; k < 65; k++) {
                    x.due(s == t ? NONE : s).place(s, t, k, 0);
                }
            }
        }
    }

    private static void placeLastIsEnd() {
        Asked x = Asked.diamond();
        x.due(3).place(0, 3, 0, 2);
        x.due(3).place(0, 3, 2, 3);
        x.due(3).place(0, 3, 3, 1);
        line(4).due(5).place(0, 5, 0, 5);
    }

    private static void placeBelowNumbers() {
        Asked x = Asked.diamond();
        for (int k = 0; k < 4; k++) {
            x.due(NONE).place(0, 3, k, -1);
            x.due(NONE).place(0, 3, k, -3);
            x.due(NONE).place(0, 3, k, Integer.MIN_VALUE);
        }
    }

    private static void placeBeyondNumbers() {
        Asked x = Asked.diamond();
        int[] sizes = {3, 3, 4, 2};
        for (int k = 0; k < sizes.length; k++) {
            for (int i = sizes[k]; i <= 70; i++) {
                x.due(NONE).place(0, 3, k, i);
            }
        }
        Asked direct = Asked.network(0, 3, 7);
        Asked longest = line(20);
        for (int i : NEVER_NUMBERS) {
            direct.due(NONE).place(0, 3, 0, i);
            longest.due(NONE).place(0, 5, 0, i);
        }
    }

    private static void placeNoRank() {
        Asked x = Asked.diamond();
        x.due(NONE).place(0, 3, 4, 0);
        x.due(NONE).place(0, 3, 64, 0);
        Asked full = Asked.full(20);
        for (int k : NEVER_RANKS) {
            for (int i = -1; i <= 6; i++) {
                x.due(NONE).place(0, 3, k, i);
                full.due(NONE).place(0, 3, k, i);
            }
            x.due(NONE).place(0, 3, k, k);
        }
    }

    private static void placeNoWay() {
        Asked x = Asked.diamond();
        x.due(4).ways(0, 3);
        x.due(NONE).place(3, 0, 0, 0);
        x.due(NONE).place(4, 3, 0, 0);
        x.due(NONE).place(4, 3, 0, 1);
    }

    private static void placeNoPair() {
        Asked x = Asked.full(3);
        x.due(65).ways(0, 1);
        for (int v = 0; v < PLACES; v++) {
            // Not even the one place s, which is also t, is a way.
            x.due(NONE).place(v, v, 0, 0);
            for (int no : NOT_PLACES) {
                x.due(NONE).place(v, no, 0, 0);
                x.due(NONE).place(no, v, 0, 0);
            }
        }
    }

    private static void leastSize() {
        Asked.network(5, 0, 20).due(2).size(5, 0, 0);
        Asked.full(1).due(2).size(5, 0, 0);
    }

    private static void greatestSize() {
        line(1).due(6).size(0, 5, 0);
        Asked.full(1).due(6).size(5, 0, 64);
    }

    private static void sizeNoRank() {
        Asked x = Asked.diamond();
        x.due(2).size(0, 3, 3);
        x.due(NONE).size(0, 3, 4);
        x.due(NONE).size(0, 3, 64);
        Asked full = Asked.full(20);
        for (int k : NEVER_RANKS) {
            x.due(NONE).size(0, 3, k);
            full.due(NONE).size(0, 3, k);
        }
    }

    private static void sizeNoWay() {
        Asked x = Asked.diamond();
        x.due(4).ways(0, 3);
        x.due(NONE).size(3, 0, 0);
        x.due(NONE).size(4, 3, 0);
    }

    private static void sizeNoPair() {
        Asked x = Asked.full(3);
        x.due(65).ways(0, 1);
        for (int v = 0; v < PLACES; v++) {
            x.due(NONE).size(v, v, 0);
            for (int no : NOT_PLACES) {
                x.due(NONE).size(v, no, 0);
                x.due(NONE).size(no, v, 0);
            }
        }
    }

    private static void withinAtMost() {
        Asked x = Asked.diamond();
        int[] want = {0, 0, 0, 0, 2, 3, 3, 4, 4};
        for (int n = 0; n < want.length; n++) {
            x.due(want[n]).within(0, 3, n);
        }
        Asked full = Asked.full(20);
        int[] counts = {0, 1, 5, 17, 41, 65};
        for (int roads = 1; roads < counts.length; roads++) {
            full.due(counts[roads - 1]).within(4, 1, 20 * roads - 1);
            full.due(counts[roads]).within(4, 1, 20 * roads);
            full.due(counts[roads]).within(4, 1, 20 * roads + 1);
        }
    }

    private static void withinTooSmall() {
        Asked x = Asked.full(1);
        x.due(1).within(0, 5, 1);
        int[] tooSmall = {0, -1, -2, -100, Integer.MIN_VALUE, Integer.MIN_VALUE + 1};
        for (int n : tooSmall) {
            x.due(0).within(0, 5, n);
        }
    }

    private static void withinTooLarge() {
        Asked x = Asked.full(20);
        int[] large = {100, 101, 128, 256, 65536, 1 << 13, 1 << 14, 1 << 24, Integer.MAX_VALUE, Integer.MAX_VALUE - 1};
        for (int n : large) {
            x.due(65).within(0, 5, n);
        }
    }

    private static void withinNoWay() {
        Asked x = Asked.diamond();
        x.due(4).ways(0, 3);
        x.due(0).within(3, 0, 100);
        x.due(0).within(4, 3, Integer.MAX_VALUE);
        Asked full = Asked.full(1);
        full.due(65).ways(0, 1);
        for (int v = 0; v < PLACES; v++) {
            full.due(0).within(v, v, 0);
            full.due(0).within(v, v, Integer.MAX_VALUE);
            for (int no : NOT_PLACES) {
                full.due(0).within(v, no, 100);
                full.due(0).within(no, v, 100);
            }
        }
    }

    private static void shortestOne() {
        Asked.network(4, 2, 20).due(1).shortest(4, 2);
        Asked full = Asked.full(20);
        for (int s = 0; s < PLACES; s++) {
            for (int t = 0; t < PLACES; t++) {
                full.due(s == t ? 0 : 1).shortest(s, t);
            }
        }
        // One that is longer by 1 does not count.
        Asked.network(0, 1, 1, 1, 2, 1, 0, 2, 3).due(1).shortest(0, 2);
    }

    private static void shortestAll() {
        Asked.network(0, 1, 1, 1, 2, 1, 0, 2, 2).due(2).shortest(0, 2);
        Asked.network(0, 1, 20, 0, 2, 20, 0, 3, 20, 0, 4, 20, 1, 5, 20, 2, 5, 20, 3, 5, 20, 4, 5, 20)
                .due(4).shortest(0, 5);
    }

    /** Roads up the line as long as the places are apart: any choice of places between is shortest. */
    private static void shortestMost() {
        Asked x = Asked.full(20);
        for (int a = 0; a < PLACES; a++) {
            for (int b = a + 1; b < PLACES; b++) {
                x.due(true).build(a, b, b - a);
            }
        }
        x.due(65).ways(0, 5);
        x.due(16).shortest(0, 5);
        x.due(16).within(0, 5, 5);
        x.due(0).within(0, 5, 4);
        x.isWay(0, 5, 0, 1, 2, 3, 4, 5);
        x.isWay(15, 5, 0, 5);
    }

    private static void shortestNoWay() {
        Asked x = Asked.diamond();
        x.due(2).shortest(0, 3);
        x.due(0).shortest(3, 0);
        x.due(0).shortest(4, 3);
        Asked full = Asked.full(1);
        full.due(65).ways(0, 1);
        for (int v = 0; v < PLACES; v++) {
            full.due(0).shortest(v, v);
            for (int no : NOT_PLACES) {
                full.due(0).shortest(v, no);
                full.due(0).shortest(no, v);
            }
        }
    }
}
