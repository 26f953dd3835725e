/**
 * Each promise with ordinary inputs. The boundary cases have tests of their own, in the files
 * named ...BoundariesTest.java.
 */
public final class PromisesTest {
    private static final int NONE = Asked.NONE;
    private static final int PLACES = Asked.PLACES;

    public static void main(String[] args) {
        Due.test("1: a new object", PromisesTest::newObject);
        Due.test("2: build", PromisesTest::build);
        Due.test("3: close", PromisesTest::close);
        Due.test("4: road", PromisesTest::road);
        Due.test("5: roads", PromisesTest::roads);
        Due.test("6: ways", PromisesTest::ways);
        Due.test("7: length", PromisesTest::length);
        Due.test("8: place", PromisesTest::place);
        Due.test("9: size", PromisesTest::size);
        Due.test("10: within", PromisesTest::within);
        Due.test("11: shortest", PromisesTest::shortest);
        Due.test("12: musts", PromisesTest::musts);
        Due.test("13: firstAvoiding", PromisesTest::firstAvoiding);
        Due.test("14: detour", PromisesTest::detour);
        Due.end();
    }

    private static void newObject() {
        Asked x = new Asked();
        x.due(0).roads();
        x.due(NONE).road(1, 2);
        x.due(0).ways(1, 2);
    }

    private static void build() {
        Asked x = new Asked();
        x.due(true).build(0, 5, 3);
        x.due(true).build(5, 2, 8);
        x.hasRoads(0, 5, 3, 5, 2, 8);
        x.due(true).build(0, 5, 7);
        x.hasRoads(0, 5, 7, 5, 2, 8);
        x.due(15).length(0, 2, 0);
    }

    private static void close() {
        Asked x = Asked.network(1, 2, 3, 2, 1, 4, 2, 3, 5);
        x.due(true).close(1, 2);
        x.hasRoads(2, 1, 4, 2, 3, 5);
        x.due(0).ways(1, 3);
        x.due(true).build(1, 2, 6);
        x.hasRoads(1, 2, 6, 2, 1, 4, 2, 3, 5);
    }

    private static void road() {
        Asked x = new Asked();
        for (int a = 0; a < PLACES; a++) {
            for (int b = 0; b < PLACES; b++) {
                x.due(a != b).build(a, b, 1 + (a * 7 + b * 5) % 20);
            }
        }
        for (int a = 0; a < PLACES; a++) {
            for (int b = 0; b < PLACES; b++) {
                x.due(a == b ? NONE : 1 + (a * 7 + b * 5) % 20).road(a, b);
            }
        }
    }

    private static void roads() {
        Asked x = Asked.diamond();
        x.due(8).roads();
        x.due(true).build(3, 0, 1);
        x.due(9).roads();
        x.due(true).close(0, 1);
        x.due(8).roads();
    }

    private static void ways() {
        Asked x = Asked.diamond();
        x.due(4).ways(0, 3);
        x.due(2).ways(1, 3);
        x.due(4).ways(5, 3);
        x.due(1).ways(5, 4);
        x.due(true).close(1, 2);
        x.due(3).ways(0, 3);
    }

    private static void length() {
        Asked x = Asked.diamond();
        x.due(4).length(0, 3, 0);
        x.due(4).length(0, 3, 1);
        x.due(5).length(0, 3, 2);
        x.due(7).length(0, 3, 3);
        x.due(10).length(5, 3, 0);
    }

    private static void place() {
        Asked x = Asked.diamond();
        int[][] want = {{0, 1, 3}, {0, 2, 3}, {0, 1, 2, 3}, {0, 3}};
        for (int k = 0; k < want.length; k++) {
            for (int i = 0; i < want[k].length; i++) {
                x.due(want[k][i]).place(0, 3, k, i);
            }
        }
    }

    private static void size() {
        Asked x = Asked.diamond();
        int[] want = {3, 3, 4, 2};
        for (int k = 0; k < want.length; k++) {
            x.due(want[k]).size(0, 3, k);
            x.due(want[k] + 1).size(5, 3, k);
        }
    }

    private static void within() {
        Asked x = Asked.diamond();
        x.due(0).within(0, 3, 3);
        x.due(2).within(0, 3, 4);
        x.due(3).within(0, 3, 6);
        x.due(4).within(0, 3, 50);
    }

    private static void shortest() {
        Asked x = Asked.diamond();
        x.due(2).shortest(0, 3);
        x.due(1).shortest(1, 3);
        x.due(2).shortest(5, 3);
        x.due(true).build(1, 2, 1);
        x.due(3).shortest(0, 3);
    }

    private static void musts() {
        Asked x = Asked.network(0, 1, 1, 1, 2, 1, 1, 3, 1, 2, 4, 1, 3, 4, 1, 4, 5, 1);
        x.due(2 + 16).musts(0, 5);
        x.due(0).musts(1, 4);
        x.due(16).musts(2, 5);
    }

    private static void firstAvoiding() {
        Asked x = Asked.diamond();
        x.due(1).firstAvoiding(0, 3, 1);
        x.due(0).firstAvoiding(0, 3, 2);
        x.due(0).firstAvoiding(5, 3, 4);
        x.due(NONE).firstAvoiding(5, 3, 0);
    }

    private static void detour() {
        Asked x = Asked.diamond();
        x.due(0).detour(0, 3, 0, 1);
        x.due(1).detour(1, 3, 1, 3);
        x.due(NONE).detour(5, 3, 5, 0);
        x.due(true).close(0, 2);
        x.due(3).detour(0, 3, 0, 1);
        x.due(1).detour(0, 3, 1, 3);
    }
}
