/** A test for each sentence that names a boundary case of promises 12 to 14. */
public final class AvoidBoundariesTest {
    private static final int NONE = Asked.NONE;
    private static final int PLACES = Asked.PLACES;
    private static final int[] NOT_PLACES = Asked.NOT_PLACES;

    public static void main(String[] args) {
        Due.test("12: bit v for place v", AvoidBoundariesTest::mustsEachBit);
        Due.test("12: other than s and t", AvoidBoundariesTest::mustsOtherThanEnds);
        Due.test("12: that are on every way, not all of them", AvoidBoundariesTest::mustsNotOnAll);
        Due.test("12: that are on every way, as many as can be", AvoidBoundariesTest::mustsMost);
        Due.test("12: 0 when there is no way", AvoidBoundariesTest::mustsNoWay);
        Due.test("12: 0 when there is no way, s = t or no place", AvoidBoundariesTest::mustsNoPair);

        Due.test("13: the least rank", AvoidBoundariesTest::avoidingLeastRank);
        Due.test("13: the least rank, the last of all", AvoidBoundariesTest::avoidingLastRank);
        Due.test("13: NONE when there is none, every way comes through v", AvoidBoundariesTest::avoidingMust);
        Due.test("13: NONE when there is none, no way", AvoidBoundariesTest::avoidingNoWay);
        Due.test("13: NONE when there is none, s = t or no place", AvoidBoundariesTest::avoidingNoPair);
        Due.test("13: NONE when v is s", AvoidBoundariesTest::avoidingStart);
        Due.test("13: NONE when v is t", AvoidBoundariesTest::avoidingEnd);
        Due.test("13: NONE when v is not 0 .. 5", AvoidBoundariesTest::avoidingNoPlace);

        Due.test("14: would grow, by nothing", AvoidBoundariesTest::detourGrowsByNothing);
        Due.test("14: would grow, by the least and the most", AvoidBoundariesTest::detourGrows);
        Due.test("14: if it were taken away, but it is not", AvoidBoundariesTest::detourChangesNothing);
        Due.test("14: 0 when there is no such road, never built", AvoidBoundariesTest::detourNeverBuilt);
        Due.test("14: 0 when there is no such road, closed", AvoidBoundariesTest::detourClosed);
        Due.test("14: 0 when there is no such road, only the other direction", AvoidBoundariesTest::detourOtherDirection);
        Due.test("14: 0 when there is no such road, a = b", AvoidBoundariesTest::detourToItself);
        Due.test("14: 0 when there is no such road, a or b is no place", AvoidBoundariesTest::detourNoPlace);
        Due.test("14: 0 when there is no way from s to t", AvoidBoundariesTest::detourNoWay);
        Due.test("14: 0 when there is no way, s = t", AvoidBoundariesTest::detourSameEnds);
        Due.test("14: 0 when there is no way, s or t is no place", AvoidBoundariesTest::detourNoEnds);
        Due.test("14: 0 when there is no such road and no way", AvoidBoundariesTest::detourNeither);
        Due.test("14: NONE when there would be no way any more", AvoidBoundariesTest::detourNoWayAnyMore);
        Due.end();
    }

    private static Asked line() {
        return Asked.network(0, 1, 1, 1, 2, 1, 2, 3, 1, 3, 4, 1, 4, 5, 1);
    }

    private static void mustsEachBit() {
        for (int s = 0; s < PLACES; s++) {
            for (int v = 0; v < PLACES; v++) {
                for (int t = 0; t < PLACES; t++) {
                    if (s != v && v != t && s != t) {
                        Asked.network(s, v, 20, v, t, 1).due(1 << v).musts(s, t);
                    }
                }
            }
        }
    }

    private static void mustsOtherThanEnds() {
        // s and t are on every way, and still no bits of the answer.
        Asked x = Asked.network(0, 1, 1, 5, 0, 1, 4, 5, 1);
        x.due(0).musts(0, 1);
        x.due(0).musts(5, 0);
        x.due(1).musts(5, 1);
        x.due(32).musts(4, 0);
        x.due(33).musts(4, 1);
        Asked full = Asked.full(1);
        for (int s = 0; s < PLACES; s++) {
            for (int t = 0; t < PLACES; t++) {
                full.due(0).musts(s, t);
            }
        }
    }

    private static void mustsNotOnAll() {
        Asked x = Asked.diamond();
        x.due(0).musts(0, 3);
        x.due(1).musts(5, 3);
        x.due(true).close(0, 3);
        x.due(0).musts(0, 3);
        x.due(true).close(2, 3);
        x.due(2).musts(0, 3);
        // The one way that goes round counts, however long it is.
        x.due(true).build(0, 3, 20);
        x.due(0).musts(0, 3);
        // A way of rank 0 that does not come through 2, while all others do.
        Asked y = Asked.network(0, 1, 1, 1, 3, 1, 0, 2, 9, 2, 3, 9, 1, 2, 9);
        y.due(0).musts(0, 3);
    }

    private static void mustsMost() {
        Asked x = line();
        x.due(2 + 4 + 8 + 16).musts(0, 5);
        x.due(4 + 8 + 16).musts(1, 5);
        x.due(4).musts(1, 3);
        x.due(0).musts(2, 3);
        Asked back = Asked.network(3, 5, 20, 5, 1, 20, 1, 4, 20, 4, 0, 20, 0, 2, 20);
        back.due(1 + 2 + 16 + 32).musts(3, 2);
    }

    private static void mustsNoWay() {
        Asked x = line();
        // The question before had ways and musts, which must not answer this one.
        x.due(30).musts(0, 5);
        x.due(0).musts(5, 0);
        x.due(0).musts(3, 2);
        x.due(true).close(2, 3);
        x.due(0).musts(0, 5);
        new Asked().due(0).musts(0, 5);
    }

    private static void mustsNoPair() {
        Asked x = line();
        x.due(30).musts(0, 5);
        for (int v = 0; v < PLACES; v++) {
            x.due(0).musts(v, v);
            for (int no : NOT_PLACES) {
                x.due(0).musts(v, no);
                x.due(0).musts(no, v);
            }
        }
    }

    private static void avoidingLeastRank() {
        Asked x = Asked.diamond();
        x.due(1).firstAvoiding(0, 3, 1);
        x.due(0).firstAvoiding(0, 3, 2);
        // Places that are on no way, and one that cannot be reached.
        x.due(0).firstAvoiding(0, 3, 4);
        x.due(0).firstAvoiding(0, 3, 5);
        x.due(true).close(0, 2);
        x.due(2).firstAvoiding(0, 3, 1);
    }

    /** All ways over 1 are shorter than the one direct road. */
    private static void avoidingLastRank() {
        Asked x = Asked.network(0, 1, 1, 1, 5, 1, 1, 2, 1, 2, 5, 1, 1, 3, 1, 3, 5, 1, 2, 3, 1, 3, 2, 1, 0, 5, 20);
        x.due(6).ways(0, 5);
        x.due(5).firstAvoiding(0, 5, 1);
        x.due(true).close(0, 5);
        x.due(5).ways(0, 5);
        x.due(NONE).firstAvoiding(0, 5, 1);
    }

    private static void avoidingMust() {
        Asked x = line();
        for (int v = 1; v <= 4; v++) {
            x.due(NONE).firstAvoiding(0, 5, v);
        }
        Asked y = Asked.diamond();
        y.due(NONE).firstAvoiding(5, 3, 0);
        y.due(0).firstAvoiding(5, 3, 4);
    }

    private static void avoidingNoWay() {
        Asked x = Asked.diamond();
        x.due(0).firstAvoiding(0, 3, 2);
        x.due(NONE).firstAvoiding(3, 0, 2);
        x.due(NONE).firstAvoiding(4, 3, 0);
        new Asked().due(NONE).firstAvoiding(0, 1, 2);
    }

    private static void avoidingNoPair() {
        for (int v = 0; v < PLACES; v++) {
            Asked x = Asked.full(1);
            x.due(65).ways(0, 1);
            for (int s = 0; s < PLACES; s++) {
                x.due(NONE).firstAvoiding(s, s, v);
                for (int no : NOT_PLACES) {
                    x.due(NONE).firstAvoiding(s, no, v);
                    x.due(NONE).firstAvoiding(no, s, v);
                }
            }
        }
    }

    private static void avoidingStart() {
        Asked x = Asked.full(1);
        for (int s = 0; s < PLACES; s++) {
            for (int t = 0; t < PLACES; t++) {
                x.due(NONE).firstAvoiding(s, t, s);
            }
        }
    }

    private static void avoidingEnd() {
        Asked x = Asked.full(1);
        for (int s = 0; s < PLACES; s++) {
            for (int t = 0; t < PLACES; t++) {
                x.due(NONE).firstAvoiding(s, t, t);
            }
        }
    }

    private static void avoidingNoPlace() {
        Asked full = Asked.full(1);
        Asked direct = Asked.network(0, 1, 4);
        for (int no : NOT_PLACES) {
            full.due(NONE).firstAvoiding(0, 5, no);
            full.due(NONE).firstAvoiding(4, 3, no);
            direct.due(NONE).firstAvoiding(0, 1, no);
            // s or t is no place either.
            full.due(NONE).firstAvoiding(no, 5, no);
            full.due(NONE).firstAvoiding(0, no, no);
        }
    }

    private static void detourGrowsByNothing() {
        Asked x = Asked.diamond();
        // Another way is as short.
        x.due(0).detour(0, 3, 0, 1);
        x.due(0).detour(0, 3, 2, 3);
        // The road is on ways, but on none of the shortest.
        x.due(0).detour(0, 3, 1, 2);
        x.due(0).detour(0, 3, 0, 3);
        // The road is on no way: it leads nowhere, or into s.
        x.due(0).detour(0, 3, 0, 4);
        x.due(0).detour(0, 3, 5, 0);
        // Out of t.
        x.due(true).build(3, 4, 1);
        x.due(0).detour(0, 3, 3, 4);
        // The only shortest way comes through both places, but not by this road.
        Asked y = Asked.network(0, 1, 1, 1, 4, 1, 4, 2, 1, 2, 3, 1, 1, 2, 9);
        y.due(0).detour(0, 3, 1, 2);
        // It takes the road between them in the other direction.
        Asked z = Asked.network(0, 2, 1, 2, 1, 1, 1, 3, 1, 1, 2, 1);
        z.due(0).detour(0, 3, 1, 2);
        z.due(NONE).detour(0, 3, 2, 1);
    }

    private static void detourGrows() {
        Asked least = Asked.network(0, 1, 1, 1, 3, 1, 0, 3, 3);
        least.due(1).detour(0, 3, 0, 1);
        least.due(1).detour(0, 3, 1, 3);
        Asked most = Asked.network(0, 5, 1, 0, 1, 20, 1, 2, 20, 2, 3, 20, 3, 4, 20, 4, 5, 20);
        most.due(99).detour(0, 5, 0, 5);
        // The ranks between are all gone with the road.
        Asked x = Asked.network(0, 1, 1, 1, 5, 1, 1, 2, 1, 2, 5, 1, 1, 3, 1, 3, 5, 1, 2, 3, 1, 3, 2, 1, 0, 5, 20);
        x.due(18).detour(0, 5, 0, 1);
        x.due(1).detour(0, 5, 1, 5);
        Asked full = Asked.full(20);
        for (int s = 0; s < PLACES; s++) {
            for (int t = 0; t < PLACES; t++) {
                full.due(s == t ? 0 : 20).detour(s, t, s, t);
            }
        }
    }

    private static void detourChangesNothing() {
        int[] roads = {0, 1, 2, 1, 3, 2, 0, 2, 3, 2, 3, 1, 5, 0, 6};
        Asked x = Asked.network(roads);
        x.due(0).detour(0, 3, 0, 1);
        x.due(NONE).detour(5, 3, 5, 0);
        x.due(0).detour(3, 0, 0, 1);
        x.due(0).detour(0, 3, 1, 0);
        x.due(0).detour(0, 3, 4, 4);
        x.hasRoads(roads);
        x.due(2).ways(5, 3);
        x.due(10).length(5, 3, 0);
        x.due(NONE).detour(5, 3, 5, 0);
        x.due(true).close(5, 0);
    }

    /** The only way from 0 to 5 is left alone, so a road taken from it by mistake would show. */
    private static void detourNeverBuilt() {
        Asked x = line();
        x.due(0).detour(0, 5, 0, 5);
        x.due(0).detour(0, 5, 0, 2);
        x.due(0).detour(0, 5, 3, 5);
        x.due(NONE).detour(0, 5, 0, 1);
    }

    private static void detourClosed() {
        Asked x = Asked.network(0, 1, 1, 0, 2, 3, 2, 1, 3);
        x.due(5).detour(0, 1, 0, 1);
        x.due(true).close(0, 1);
        x.due(0).detour(0, 1, 0, 1);
        x.due(NONE).detour(0, 1, 0, 2);
    }

    private static void detourOtherDirection() {
        Asked x = line();
        for (int v = 0; v < 5; v++) {
            x.due(0).detour(0, 5, v + 1, v);
            x.due(NONE).detour(0, 5, v, v + 1);
        }
    }

    private static void detourToItself() {
        Asked x = line();
        for (int v = 0; v < PLACES; v++) {
            x.due(0).detour(0, 5, v, v);
            x.due(0).detour(1, 2, v, v);
        }
    }

    private static void detourNoPlace() {
        for (int no : NOT_PLACES) {
            Asked x = line();
            for (int v = 0; v < PLACES; v++) {
                x.due(0).detour(0, 5, v, no);
                x.due(0).detour(0, 5, no, v);
                x.due(0).detour(0, 1, v, no);
                x.due(0).detour(0, 1, no, v);
            }
            for (int other : NOT_PLACES) {
                x.due(0).detour(0, 5, no, other);
            }
        }
    }

    private static void detourNoWay() {
        Asked x = line();
        x.due(NONE).detour(0, 5, 0, 1);
        x.due(0).detour(5, 0, 0, 1);
        x.due(0).detour(1, 0, 0, 1);
        x.due(true).close(2, 3);
        x.due(0).detour(0, 5, 0, 1);
        x.due(0).detour(0, 5, 4, 5);
    }

    private static void detourSameEnds() {
        Asked x = Asked.full(4);
        x.due(4).detour(0, 1, 0, 1);
        for (int v = 0; v < PLACES; v++) {
            for (int b = 0; b < PLACES; b++) {
                x.due(0).detour(v, v, v, b);
                x.due(0).detour(v, v, b, v);
            }
        }
    }

    private static void detourNoEnds() {
        for (int no : NOT_PLACES) {
            Asked x = line();
            x.due(NONE).detour(0, 5, 0, 1);
            for (int v = 0; v < PLACES; v++) {
                x.due(0).detour(v, no, 0, 1);
                x.due(0).detour(no, v, 0, 1);
                x.due(0).detour(no, v, 4, 5);
            }
            for (int other : NOT_PLACES) {
                x.due(0).detour(no, other, 0, 1);
            }
        }
    }

    private static void detourNeither() {
        Asked x = line();
        x.due(0).detour(5, 0, 5, 0);
        x.due(0).detour(5, 0, 3, 3);
        x.due(0).detour(3, 3, 3, 3);
        Asked empty = new Asked();
        empty.due(0).detour(0, 1, 0, 1);
        for (int no : NOT_PLACES) {
            x.due(0).detour(no, no, no, no);
            x.due(0).detour(5, 0, no, 0);
            empty.due(0).detour(no, 0, 0, no);
        }
    }

    private static void detourNoWayAnyMore() {
        Asked.network(3, 2, 20).due(NONE).detour(3, 2, 3, 2);
        Asked x = line();
        for (int v = 0; v < 5; v++) {
            x.due(NONE).detour(0, 5, v, v + 1);
        }
        // Several ways, all of them over the one road.
        Asked bridge = Asked.network(0, 1, 1, 0, 2, 2, 1, 3, 1, 2, 3, 2, 3, 4, 1, 4, 5, 1);
        bridge.due(2).ways(0, 5);
        bridge.due(NONE).detour(0, 5, 3, 4);
        bridge.due(NONE).detour(0, 5, 4, 5);
        bridge.due(2).detour(0, 5, 0, 1);
        bridge.due(0).detour(0, 5, 2, 3);
    }
}
