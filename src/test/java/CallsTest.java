import java.util.List;
import java.util.function.Consumer;

/** "What it is": an object is used for at most 512 calls, and the last of them counts like the first. */
public final class CallsTest {
    private static final int NONE = Asked.NONE;

    // What each call answers on the network of Asked.diamond(); none of them changes it for good.
    private static final List<Consumer<Asked>> CALLS = List.of(
            x -> x.due(true).build(0, 4, 1),
            x -> x.due(false).build(0, 4, 21),
            x -> x.due(false).close(4, 0),
            x -> x.due(7).road(0, 3),
            x -> x.due(8).roads(),
            x -> x.due(4).ways(0, 3),
            x -> x.due(5).length(0, 3, 2),
            x -> x.due(2).place(0, 3, 2, 2),
            x -> x.due(4).size(0, 3, 2),
            x -> x.due(3).within(0, 3, 6),
            x -> x.due(2).shortest(0, 3),
            x -> x.due(1).musts(5, 3),
            x -> x.due(1).firstAvoiding(0, 3, 1),
            x -> x.due(NONE).detour(5, 3, 5, 0),
            x -> x.due(true).close(0, 4));

    public static void main(String[] args) {
        Due.test("What it is: 512 calls, each kind as the last", CallsTest::eachKindLast);
        Due.test("What it is: 512 calls, all of them changes", CallsTest::allChanges);
        Due.test("What it is: 512 calls, all of them refused", CallsTest::allRefused);
        Due.test("LANGUAGE 7: no call throws, after the 512th either", CallsTest::laterCallsEnd);
        Due.end();
    }

    private static void eachKindLast() {
        // The last kind takes a road away, so it is only ever made as the 512th call.
        int kindsBefore = CALLS.size() - 1;
        for (Consumer<Asked> last : CALLS) {
            Asked x = Asked.diamond();
            while (x.calls() < Asked.MOST_CALLS - 1) {
                CALLS.get(x.calls() % kindsBefore).accept(x);
            }
            last.accept(x);
            Due.is("calls made", Asked.MOST_CALLS, x.calls());
        }
    }

    private static void allChanges() {
        Asked built = new Asked();
        while (built.calls() < Asked.MOST_CALLS - 1) {
            built.due(true).build(0, 5, 1 + built.calls() % 20);
        }
        built.due(1 + (Asked.MOST_CALLS - 2) % 20).road(0, 5);
        Asked closed = new Asked();
        while (closed.calls() < Asked.MOST_CALLS - 2) {
            closed.due(true).build(3, 2, 20);
            closed.due(true).close(3, 2);
        }
        closed.due(0).roads();
        closed.due(false).close(3, 2);
    }

    private static void allRefused() {
        Asked x = Asked.network(0, 1, 5);
        while (x.calls() < Asked.MOST_CALLS - 1) {
            x.due(false).build(x.calls(), x.calls(), 5);
            x.due(false).close(1, x.calls());
        }
        x.due(1).roads();
    }

    private static void laterCallsEnd() {
        PathRanker x = new PathRanker();
        int made = 0;
        for (int round = 0; round < 1000; round++) {
            int a = round % 8 - 1;
            int b = round / 8 % 8 - 1;
            x.build(a, b, round % 23);
            x.road(a, b);
            x.roads();
            x.ways(a, b);
            x.length(a, b, round % 67 - 1);
            x.place(a, b, round % 67 - 1, round % 9 - 1);
            x.size(a, b, round % 67 - 1);
            x.within(a, b, round);
            x.shortest(a, b);
            x.musts(a, b);
            x.firstAvoiding(a, b, round % 8 - 1);
            x.detour(a, b, b, a);
            x.close(b, a + 1);
            made += 13;
        }
        Due.is("calls that ended", 13000, made);
    }
}
