/** A test for each sentence on roads that names a boundary case: Terms, promises 1 to 5. */
public final class RoadBoundariesTest {
    private static final int NONE = Asked.NONE;
    private static final int PLACES = Asked.PLACES;
    private static final int[] NOT_PLACES = Asked.NOT_PLACES;

    private static final int[] TOO_SMALL = {0, -1, -2, -19, -20, -236, Integer.MIN_VALUE, Integer.MIN_VALUE + 1};
    // Cut to fewer bits, the numbers after the first five would be lengths.
    private static final int[] TOO_LARGE = {
        21, 22, 31, 100, Integer.MAX_VALUE, 33, 65, 257, 276, 65537, 65556, (1 << 14) + 5, (1 << 24) + 1};

    // Roads where a wrong index for a refused call would land, so that a change of them is seen.
    private static final int[] SOME_ROADS = {0, 5, 9, 1, 0, 8, 2, 3, 7, 3, 2, 6, 5, 4, 5};

    public static void main(String[] args) {
        Due.test("Terms: there are places 0 .. 5", RoadBoundariesTest::placesZeroToFive);
        Due.test("Terms: between two different places a road in each direction", RoadBoundariesTest::eachDirection);
        Due.test("Terms: with a length (1 .. 20)", RoadBoundariesTest::lengthsOneToTwenty);

        Due.test("1: no roads", RoadBoundariesTest::newObjectHasNoRoads);
        Due.test("1: no roads, so no ways", RoadBoundariesTest::newObjectHasNoWays);
        Due.test("1: no roads, whatever another object has", RoadBoundariesTest::objectsAreApart);

        Due.test("2: in place of one that was there", RoadBoundariesTest::buildReplaces);
        Due.test("2: false, changing nothing, when a = b", RoadBoundariesTest::buildToItself);
        Due.test("2: false, changing nothing, when a is not 0 .. 5", RoadBoundariesTest::buildFromNoPlace);
        Due.test("2: false, changing nothing, when b is not 0 .. 5", RoadBoundariesTest::buildToNoPlace);
        Due.test("2: false, changing nothing, when length is below 1", RoadBoundariesTest::buildTooShort);
        Due.test("2: false, changing nothing, when length is above 20", RoadBoundariesTest::buildTooLong);
        Due.test("2: false, changing nothing, when several of these hold", RoadBoundariesTest::buildAllWrong);

        Due.test("3: takes the road away", RoadBoundariesTest::closeTakesAway);
        Due.test("3: false when there is none, it was never built", RoadBoundariesTest::closeNeverBuilt);
        Due.test("3: false when there is none, it is closed already", RoadBoundariesTest::closeTwice);
        Due.test("3: false when there is none, only the other direction", RoadBoundariesTest::closeOtherDirection);
        Due.test("3: false when there is none, a = b", RoadBoundariesTest::closeToItself);
        Due.test("3: false when there is none, a or b is no place", RoadBoundariesTest::closeNoPlace);

        Due.test("4: NONE when there is none, it was never built", RoadBoundariesTest::roadNeverBuilt);
        Due.test("4: NONE when there is none, it is closed", RoadBoundariesTest::roadClosed);
        Due.test("4: NONE when there is none, only the other direction", RoadBoundariesTest::roadOtherDirection);
        Due.test("4: NONE when there is none, a = b", RoadBoundariesTest::roadToItself);
        Due.test("4: NONE when there is none, a or b is no place", RoadBoundariesTest::roadNoPlace);

        Due.test("5: the number of roads, none", RoadBoundariesTest::roadsOfEmpty);
        Due.test("5: the number of roads, all", RoadBoundariesTest::roadsOfFull);
        Due.test("5: the number of roads, after one in place of another", RoadBoundariesTest::roadsAfterReplacing);
        Due.test("5: the number of roads, after refused calls", RoadBoundariesTest::roadsAfterRefusals);
        Due.test("5: the number of roads, down to none again", RoadBoundariesTest::roadsDownToNone);
        Due.end();
    }

    private static void placesZeroToFive() {
        for (int a = -8; a <= 13; a++) {
            Asked x = new Asked();
            for (int b = -8; b <= 13; b++) {
                boolean both = Asked.isPlace(a) && Asked.isPlace(b) && a != b;
                x.due(both).build(a, b, 5);
                x.due(both ? 5 : NONE).road(a, b);
                x.due(both ? 1 : 0).ways(a, b);
                x.due(both).close(a, b);
                x.due(0).roads();
            }
        }
    }

    private static void eachDirection() {
        for (int a = 0; a < PLACES; a++) {
            for (int b = 0; b < PLACES; b++) {
                if (a != b) {
                    Asked x = Asked.network(a, b, 3);
                    x.hasRoads(a, b, 3);
                    x.due(true).build(b, a, 4);
                    x.hasRoads(a, b, 3, b, a, 4);
                    x.due(true).close(a, b);
                    x.hasRoads(b, a, 4);
                }
            }
        }
    }

    private static void lengthsOneToTwenty() {
        for (int length = -300; length <= 300; length++) {
            boolean right = length >= 1 && length <= 20;
            Asked x = new Asked();
            x.due(right).build(4, 2, length);
            x.due(right ? length : NONE).road(4, 2);
            x.due(right ? length : NONE).length(4, 2, 0);
        }
    }

    private static void newObjectHasNoRoads() {
        Asked x = new Asked();
        x.hasRoads();
        for (int a = 0; a < PLACES; a++) {
            for (int b = 0; b < PLACES; b++) {
                x.due(false).close(a, b);
            }
        }
    }

    private static void newObjectHasNoWays() {
        for (int s = 0; s < PLACES; s++) {
            Asked x = new Asked();
            for (int t = 0; t < PLACES; t++) {
                x.hasNoWay(s, t);
            }
        }
    }

    private static void objectsAreApart() {
        Asked x = Asked.full(3);
        Asked y = new Asked();
        y.hasRoads();
        y.due(0).ways(0, 1);
        y.due(true).build(0, 1, 5);
        x.due(3).road(0, 1);
        x.due(30).roads();
        x.due(65).ways(0, 1);
        y.hasRoads(0, 1, 5);
    }

    private static void buildReplaces() {
        for (int next = 1; next <= 20; next++) {
            Asked x = Asked.network(0, 5, 10, 5, 0, 11);
            x.due(1).ways(0, 5);
            x.due(true).build(0, 5, next);
            x.hasRoads(0, 5, next, 5, 0, 11);
            x.due(1).ways(0, 5);
            x.due(next).length(0, 5, 0);
            x.due(NONE).length(0, 5, 1);
        }
    }

    /** The call is refused, on a new object as well as on one with roads, and leaves each as it was. */
    private static void buildRefuses(int a, int b, int length) {
        Asked empty = new Asked();
        empty.due(false).build(a, b, length);
        empty.hasRoads();
        Asked some = Asked.network(SOME_ROADS);
        some.due(false).build(a, b, length);
        some.hasRoads(SOME_ROADS);
    }

    private static void buildToItself() {
        for (int v = 0; v < PLACES; v++) {
            for (int length = 1; length <= 20; length++) {
                buildRefuses(v, v, length);
            }
            Asked full = Asked.full(2);
            full.due(false).build(v, v, 1);
            full.due(30).roads();
            full.due(NONE).road(v, v);
            full.due(0).ways(v, v);
        }
    }

    private static void buildFromNoPlace() {
        for (int no : NOT_PLACES) {
            for (int b = 0; b < PLACES; b++) {
                buildRefuses(no, b, 1);
                buildRefuses(no, b, 20);
            }
        }
    }

    private static void buildToNoPlace() {
        for (int no : NOT_PLACES) {
            for (int a = 0; a < PLACES; a++) {
                buildRefuses(a, no, 1);
                buildRefuses(a, no, 20);
            }
        }
    }

    /** Between 2 and 3 there is a road already, from 4 to 0 there is none. */
    private static void buildTooShort() {
        for (int length : TOO_SMALL) {
            buildRefuses(2, 3, length);
            buildRefuses(4, 0, length);
        }
    }

    private static void buildTooLong() {
        for (int length : TOO_LARGE) {
            buildRefuses(2, 3, length);
            buildRefuses(4, 0, length);
        }
    }

    private static void buildAllWrong() {
        for (int no : NOT_PLACES) {
            buildRefuses(no, no, 5);
            buildRefuses(no, no, 0);
            buildRefuses(no, 6, 21);
            buildRefuses(-1, no, 5);
            buildRefuses(0, no, 0);
            buildRefuses(no, 5, 21);
        }
        buildRefuses(3, 3, 0);
        buildRefuses(3, 3, 21);
    }

    private static void closeTakesAway() {
        Asked x = Asked.network(SOME_ROADS);
        x.due(true).close(2, 3);
        x.hasRoads(0, 5, 9, 1, 0, 8, 3, 2, 6, 5, 4, 5);
        x.hasNoWay(2, 3);
        // Roads of the least and the greatest length go as well, and one can be built anew.
        x.due(true).build(2, 3, 1);
        x.due(true).close(2, 3);
        x.due(true).build(2, 3, 20);
        x.due(true).close(2, 3);
        x.due(NONE).road(2, 3);
        x.due(true).build(2, 3, 4);
        x.hasRoads(0, 5, 9, 1, 0, 8, 2, 3, 4, 3, 2, 6, 5, 4, 5);
        x.due(1).ways(2, 3);
    }

    private static void closeNeverBuilt() {
        Asked x = Asked.network(0, 1, 2, 1, 2, 2);
        // A way by other places is not a road.
        x.due(false).close(0, 2);
        x.due(false).close(4, 5);
        x.hasRoads(0, 1, 2, 1, 2, 2);
    }

    private static void closeTwice() {
        Asked x = Asked.network(SOME_ROADS);
        x.due(true).close(0, 5);
        x.due(false).close(0, 5);
        x.due(false).close(0, 5);
        x.hasRoads(1, 0, 8, 2, 3, 7, 3, 2, 6, 5, 4, 5);
        // One built in place of another leaves one to close, not two.
        x.due(true).build(1, 0, 3);
        x.due(true).close(1, 0);
        x.due(false).close(1, 0);
        x.hasRoads(2, 3, 7, 3, 2, 6, 5, 4, 5);
    }

    private static void closeOtherDirection() {
        Asked x = Asked.network(0, 5, 9, 4, 3, 2);
        x.due(false).close(5, 0);
        x.due(false).close(3, 4);
        x.hasRoads(0, 5, 9, 4, 3, 2);
    }

    private static void closeToItself() {
        for (int v = 0; v < PLACES; v++) {
            Asked x = Asked.full(6);
            x.due(false).close(v, v);
            x.due(30).roads();
            x.due(false).build(v, v, 6);
            x.due(false).close(v, v);
            x.due(30).roads();
        }
    }

    private static void closeNoPlace() {
        for (int no : NOT_PLACES) {
            Asked x = Asked.full(6);
            for (int v = 0; v < PLACES; v++) {
                x.due(false).close(v, no);
                x.due(false).close(no, v);
                x.due(30).roads();
            }
            for (int other : NOT_PLACES) {
                x.due(false).close(no, other);
            }
            x.due(30).roads();
        }
    }

    private static void roadNeverBuilt() {
        // A way by other places is not a road.
        Asked x = Asked.network(0, 1, 2, 1, 2, 2);
        x.due(NONE).road(0, 2);
        x.due(NONE).road(4, 5);
        x.due(false).build(4, 5, 0);
        x.due(NONE).road(4, 5);
        x.due(false).build(4, 5, 21);
        x.due(NONE).road(4, 5);
    }

    private static void roadClosed() {
        for (int length = 1; length <= 20; length++) {
            Asked x = Asked.network(0, 1, length, 5, 4, length);
            x.due(true).close(0, 1);
            x.due(NONE).road(0, 1);
            x.due(length).road(5, 4);
            x.due(true).close(5, 4);
            x.due(NONE).road(5, 4);
        }
    }

    private static void roadOtherDirection() {
        Asked x = Asked.network(0, 5, 9, 4, 3, 2);
        x.due(NONE).road(5, 0);
        x.due(NONE).road(3, 4);
        x.due(9).road(0, 5);
        x.due(2).road(4, 3);
    }

    private static void roadToItself() {
        Asked x = Asked.full(6);
        for (int v = 0; v < PLACES; v++) {
            x.due(NONE).road(v, v);
        }
    }

    private static void roadNoPlace() {
        for (int no : NOT_PLACES) {
            Asked x = Asked.full(6);
            for (int v = 0; v < PLACES; v++) {
                x.due(NONE).road(v, no);
                x.due(NONE).road(no, v);
            }
            for (int other : NOT_PLACES) {
                x.due(NONE).road(no, other);
            }
        }
    }

    private static void roadsOfEmpty() {
        new Asked().due(0).roads();
    }

    private static void roadsOfFull() {
        Asked x = new Asked();
        int count = 0;
        for (int a = 0; a < PLACES; a++) {
            for (int b = 0; b < PLACES; b++) {
                count += a == b ? 0 : 1;
                x.due(a != b).build(a, b, 20);
                x.due(count).roads();
            }
        }
        x.due(30).roads();
        x.due(true).build(3, 1, 1);
        x.due(30).roads();
    }

    private static void roadsAfterReplacing() {
        Asked x = Asked.network(0, 1, 5, 1, 0, 5);
        x.due(true).build(0, 1, 6);
        x.due(2).roads();
        x.due(true).build(0, 1, 6);
        x.due(2).roads();
    }

    private static void roadsAfterRefusals() {
        Asked x = Asked.network(0, 1, 5, 1, 0, 5);
        x.due(false).build(2, 2, 5);
        x.due(false).build(-1, 2, 5);
        x.due(false).build(2, 6, 5);
        x.due(false).build(0, 1, 0);
        x.due(false).build(2, 3, 21);
        x.due(2).roads();
        x.due(false).close(1, 2);
        x.due(false).close(1, 1);
        x.due(false).close(6, 0);
        x.due(2).roads();
    }

    private static void roadsDownToNone() {
        Asked x = Asked.full(1);
        int count = 30;
        for (int a = 0; a < PLACES; a++) {
            for (int b = 0; b < PLACES; b++) {
                count -= a == b ? 0 : 1;
                x.due(a != b).close(a, b);
                x.due(count).roads();
            }
        }
        x.hasRoads();
        x.due(true).build(5, 0, 1);
        x.due(1).roads();
    }
}
