/**
 * What each promise's sentence says first, with ordinary inputs. What it says of boundary cases and
 * wrong inputs has tests of its own, in the files named ...BoundariesTest.java.
 */
public final class PromisesTest {
    private static final int NONE = Asked.NONE;
    private static final int PLACES = Asked.PLACES;

    public static void main(String[] args) {
        Due.test("1: no roads", PromisesTest::newObject);
        Due.test("2: builds a road from a to b and answers true", PromisesTest::build);
        Due.test("3: takes the road from a to b away and answers true", PromisesTest::close);
        Due.test("4: the length of the road from a to b", PromisesTest::road);
        Due.test("5: the number of roads", PromisesTest::roads);
        Due.test("6: the number of ways from s to t", PromisesTest::ways);
        Due.test("7: the length of the way with rank k", PromisesTest::length);
        Due.test("8: place number i of the way with rank k", PromisesTest::place);
        Due.test("9: the number of places of the way with rank k", PromisesTest::size);
        Due.test("10: the number of ways that are at most n long", PromisesTest::within);
        Due.test("11: the number of ways that have the least length", PromisesTest::shortest);
        Due.test("12: the places that are on every way", PromisesTest::musts);
        Due.test("13: the least rank of a way that does not come through v", PromisesTest::firstAvoiding);
        Due.test("14: by how much the least length would grow", PromisesTest::detour);

        Due.test("Not promised: no state change but by build and close", PromisesTest::questionsChangeNothing);
        Due.test("6 to 14: of the roads that are there now", PromisesTest::answersFollowChanges);
        Due.end();
    }

    private static void newObject() {
        Asked x = new Asked();
        x.due(0).roads();
        x.due(NONE).road(1, 2);
        x.due(0).ways(1, 2);
    }

    private static void build() {
        Asked x = new Asked();
        x.due(true).build(0, 5, 3);
        x.due(true).build(5, 2, 8);
        x.hasRoads(0, 5, 3, 5, 2, 8);
        x.due(true).build(0, 5, 7);
        x.hasRoads(0, 5, 7, 5, 2, 8);
        x.due(15).length(0, 2, 0);
    }

    private static void close() {
        Asked x = Asked.network(1, 2, 3, 2, 1, 4, 2, 3, 5);
        x.due(true).close(1, 2);
        x.hasRoads(2, 1, 4, 2, 3, 5);
        x.due(0).ways(1, 3);
        x.due(true).build(1, 2, 6);
        x.hasRoads(1, 2, 6, 2, 1, 4, 2, 3, 5);
    }

    private static void road() {
        Asked x = new Asked();
        for (int a = 0; a < PLACES; a++) {
            for (int b = 0; b < PLACES; b++) {
                x.due(a != b).build(a, b, 1 + (a * 7 + b * 5) % 20);
            }
        }
        for (int a = 0; a < PLACES; a++) {
            for (int b = 0; b < PLACES; b++) {
                x.due(a == b ? NONE : 1 + (a * 7 + b * 5) % 20).road(a, b);
            }
        }
    }

    private static void roads() {
        Asked x = Asked.diamond();
        x.due(8).roads();
        x.due(true).build(3, 0, 1);
        x.due(9).roads();
        x.due(true).close(0, 1);
        x.due(8).roads();
    }

    private static void ways() {
        Asked x = Asked.diamond();
        x.due(4).ways(0, 3);
        x.due(2).ways(1, 3);
        x.due(4).ways(5, 3);
        x.due(1).ways(5, 4);
        x.due(true).close(1, 2);
        x.due(3).ways(0, 3);
    }

    private static void length() {
        Asked x = Asked.diamond();
        x.due(4).length(0, 3, 0);
        x.due(4).length(0, 3, 1);
        x.due(5).length(0, 3, 2);
        x.due(7).length(0, 3, 3);
        x.due(10).length(5, 3, 0);
    }

    private static void place() {
        Asked x = Asked.diamond();
        int[][] want = {{0, 1, 3}, {0, 2, 3}, {0, 1, 2, 3}, {0, 3}};
        for (int k = 0; k < want.length; k++) {
            for (int i = 0; i < want[k].length; i++) {
                x.due(want[k][i]).place(0, 3, k, i);
            }
        }
    }

    private static void size() {
        Asked x = Asked.diamond();
        int[] want = {3, 3, 4, 2};
        for (int k = 0; k < want.length; k++) {
            x.due(want[k]).size(0, 3, k);
            x.due(want[k] + 1).size(5, 3, k);
        }
    }

    private static void within() {
        Asked x = Asked.diamond();
        x.due(0).within(0, 3, 3);
        x.due(2).within(0, 3, 4);
        x.due(3).within(0, 3, 6);
        x.due(4).within(0, 3, 50);
    }

    private static void shortest() {
        Asked x = Asked.diamond();
        x.due(2).shortest(0, 3);
        x.due(1).shortest(1, 3);
        x.due(2).shortest(5, 3);
        x.due(true).build(1, 2, 1);
        x.due(3).shortest(0, 3);
    }

    private static void musts() {
        Asked x = Asked.network(0, 1, 1, 1, 2, 1, 1, 3, 1, 2, 4, 1, 3, 4, 1, 4, 5, 1);
        x.due(2 + 16).musts(0, 5);
        x.due(0).musts(1, 4);
        x.due(16).musts(2, 5);
    }

    private static void firstAvoiding() {
        Asked x = Asked.diamond();
        x.due(1).firstAvoiding(0, 3, 1);
        x.due(0).firstAvoiding(0, 3, 2);
        x.due(0).firstAvoiding(5, 3, 4);
        x.due(NONE).firstAvoiding(5, 3, 0);
    }

    private static void detour() {
        Asked x = Asked.diamond();
        x.due(0).detour(0, 3, 0, 1);
        x.due(1).detour(1, 3, 1, 3);
        x.due(NONE).detour(5, 3, 5, 0);
        x.due(true).close(0, 2);
        x.due(3).detour(0, 3, 0, 1);
        x.due(1).detour(0, 3, 1, 3);
    }

    private static void questionsChangeNothing() {
        int[] roads = {0, 1, 2, 1, 3, 2, 0, 2, 3, 2, 3, 1, 1, 2, 2, 0, 3, 7, 0, 4, 1, 5, 0, 6};
        Asked x = Asked.network(roads);
        // Twice each: a question that changed something would answer otherwise the second time.
        for (int round = 0; round < 2; round++) {
            askAll(x);
            x.hasRoads(roads);
        }
    }

    private static void askAll(Asked x) {
        x.due(7).road(0, 3);
        x.due(NONE).road(3, 0);
        x.due(8).roads();
        x.due(4).ways(0, 3);
        x.due(5).length(0, 3, 2);
        x.due(2).place(0, 3, 2, 2);
        x.due(4).size(0, 3, 2);
        x.due(3).within(0, 3, 6);
        x.due(2).shortest(0, 3);
        x.due(1).musts(5, 3);
        x.due(1).firstAvoiding(0, 3, 1);
        x.due(1).detour(1, 3, 1, 3);
        x.due(NONE).detour(5, 3, 5, 0);
    }

    /** Each question right before and right after a change of the roads that it depends on. */
    private static void answersFollowChanges() {
        Asked x = Asked.network(0, 1, 1, 1, 2, 1);
        askOneWay(x);
        x.due(true).build(0, 2, 2);
        x.due(2).ways(0, 2);
        x.due(2).length(0, 2, 1);
        x.due(2).place(0, 2, 1, 1);
        x.due(2).size(0, 2, 1);
        x.due(2).within(0, 2, 2);
        x.due(2).shortest(0, 2);
        x.due(0).musts(0, 2);
        x.due(1).firstAvoiding(0, 2, 1);
        x.due(0).detour(0, 2, 0, 1);
        x.due(true).build(0, 2, 9);
        x.due(9).length(0, 2, 1);
        x.due(1).within(0, 2, 2);
        x.due(1).shortest(0, 2);
        x.due(7).detour(0, 2, 0, 1);
        x.due(true).close(0, 2);
        askOneWay(x);
    }

    /** The only way from 0 to 2 is 0 1 2. */
    private static void askOneWay(Asked x) {
        x.due(1).ways(0, 2);
        x.due(NONE).length(0, 2, 1);
        x.due(NONE).place(0, 2, 1, 1);
        x.due(NONE).size(0, 2, 1);
        x.due(1).within(0, 2, 2);
        x.due(1).shortest(0, 2);
        x.due(2).musts(0, 2);
        x.due(NONE).firstAvoiding(0, 2, 1);
        x.due(NONE).detour(0, 2, 0, 1);
    }
}
