import java.lang.reflect.Field;
import java.util.List;
import java.util.function.Consumer;

/**
 * The work beside the calls, which no answer tells: that it is done, how much of it, and that a
 * cycle loses nothing that can be reached.
 */
public final class CollectorTest {
    private static final Expect EXPECT = new Expect();

    public static void main(String[] args) throws ReflectiveOperationException {
        marksAsManyAsAsked();
        sweepsAsManyAsAsked();
        keepsWhatIsHiddenWhileMarking();
        keepsWhatIsMadeInAnOpenCycle();
        stepDropsGarbage();
        paceDropsGarbage();
        eachCallWorks();
        placesAreUsedAgain();
        holdsBeyondTheLastCall();
        EXPECT.end();
    }

    private static void marksAsManyAsAsked() {
        SnapshotHeap.Store store = new SnapshotHeap.Store();
        SnapshotHeap.Collector collector = new SnapshotHeap.Collector(store);
        int last = chain(store, 10);
        collector.work(4);
        EXPECT.due("marked by 4", blacks(collector, last), 4);
        collector.work(6);
        EXPECT.due("marked by 6 more", blacks(collector, last), 10);
    }

    private static void sweepsAsManyAsAsked() {
        SnapshotHeap.Store store = new SnapshotHeap.Store();
        SnapshotHeap.Collector collector = new SnapshotHeap.Collector(store);
        chain(store, 10);
        store.putNumber(0, 0);
        collector.work(4);
        EXPECT.due("tuples left by 4", store.tuples(), 6);
        collector.work(6);
        EXPECT.due("tuples left by 6 more", store.tuples(), 0);
        EXPECT.yes("the cycle is over", collector.phase() == SnapshotHeap.Phase.REST);
    }

    /** The only reference to the end of a chain moves to a root when marking is n tuples far. */
    private static void keepsWhatIsHiddenWhileMarking() {
        for (int n = 1; n <= 60; n++) {
            SnapshotHeap heap = new SnapshotHeap();
            heap.pace(0);
            heap.tuple(0, 2);
            heap.tuple(1, 2);
            heap.tuple(2, 1);
            heap.set(1, 0, 2);
            heap.set(0, 1, 1);
            heap.number(1, 0);
            heap.number(2, 0);
            heap.step(n);
            heap.get(3, 0, 1);
            heap.get(4, 3, 0);
            heap.set(3, 0, 1);
            EXPECT.due("check() at " + n, heap.check(), 0);
            heap.step(1000);
            EXPECT.due("check() after " + n, heap.check(), 0);
            EXPECT.due("size(4) after " + n, heap.size(4), 1);
        }
    }

    private static void keepsWhatIsMadeInAnOpenCycle() {
        for (int n = 1; n <= 60; n++) {
            SnapshotHeap heap = new SnapshotHeap();
            heap.pace(0);
            for (int i = 0; i < 8; i++) {
                heap.tuple(i % 5, 2);
            }
            heap.step(n);
            heap.tuple(5, 1);
            heap.tuple(6, 3);
            heap.set(5, 0, 6);
            heap.number(6, 0);
            EXPECT.due("check() of what is made at " + n, heap.check(), 0);
            heap.step(20);
            EXPECT.due("check() after it", heap.check(), 0);
            heap.get(7, 5, 0);
            EXPECT.due("size(7) of what was made at " + n, heap.size(7), 3);
        }
    }

    private static void stepDropsGarbage() throws ReflectiveOperationException {
        SnapshotHeap heap = new SnapshotHeap();
        heap.pace(0);
        makeGarbage(heap, 20);
        EXPECT.due("tuples at pace 0", storeOf(heap).tuples(), 20);
        heap.step(20);
        EXPECT.due("tuples after step(20)", storeOf(heap).tuples(), 1);
    }

    private static void paceDropsGarbage() throws ReflectiveOperationException {
        SnapshotHeap heap = new SnapshotHeap();
        heap.pace(0);
        makeGarbage(heap, 20);
        heap.pace(3);
        EXPECT.due("the call that changes it goes by what it was", storeOf(heap).tuples(), 20);
        heap.size(0);
        EXPECT.due("tuples after a call of pace 3", storeOf(heap).tuples(), 18);
        EXPECT.refused("size(16)", IndexOutOfBoundsException.class, () -> heap.size(16));
        EXPECT.due("tuples after a refused call", storeOf(heap).tuples(), 15);
        heap.pace(50);
        heap.digest();
        heap.digest();
        EXPECT.due("tuples after calls of pace 50", storeOf(heap).tuples(), 1);
    }

    private static void eachCallWorks() throws ReflectiveOperationException {
        List<Consumer<SnapshotHeap>> calls = List.of(
            h -> h.number(1, 0), h -> h.copy(0, 0), h -> h.get(1, 0, 0), h -> h.set(0, 0, 1),
            h -> h.step(1), h -> h.pace(3), h -> h.size(0), h -> h.value(0), h -> h.same(0, 1),
            h -> h.count(0), SnapshotHeap::digest, SnapshotHeap::check, h -> h.tuple(1, 0));
        for (int call = 0; call < calls.size(); call++) {
            SnapshotHeap heap = new SnapshotHeap();
            heap.pace(0);
            makeGarbage(heap, 20);
            heap.step(1);
            heap.pace(3);
            calls.get(call).accept(heap);
            int steps = call == 4 ? 4 : 3;
            int made = call == 12 ? 1 : 0;
            EXPECT.due("tuples after call " + call, storeOf(heap).tuples(), 20 - steps + made);
        }
    }

    private static void placesAreUsedAgain() throws ReflectiveOperationException {
        SnapshotHeap heap = new SnapshotHeap();
        heap.pace(50);
        makeGarbage(heap, 400);
        EXPECT.yes("places are used again", storeOf(heap).top() < 20);
    }

    /** No answer is promised after 512 calls, but no call may break: here every place is in use. */
    private static void holdsBeyondTheLastCall() throws ReflectiveOperationException {
        SnapshotHeap heap = new SnapshotHeap();
        heap.pace(0);
        for (int i = 0; i < 600; i++) {
            heap.tuple(i % 16, 0);
        }
        EXPECT.due("all places", storeOf(heap).tuples(), 600);
        heap.tuple(0, 16);
        EXPECT.due("places after a whole collection", storeOf(heap).tuples(), 17);
        for (int i = 0; i < 380; i++) {
            heap.tuple(1, 1);
            heap.set(1, 0, 2);
            heap.copy(2, 1);
        }
        EXPECT.due("a long chain is kept whole", heap.collect(), heap.count(0));
        EXPECT.due("check() of a long chain", heap.check(), 0);
    }

    private static void makeGarbage(SnapshotHeap heap, int tuples) {
        for (int i = 0; i < tuples; i++) {
            heap.tuple(0, 1);
        }
    }

    /** A chain on root 0; its last place. */
    private static int chain(SnapshotHeap.Store store, int tuples) {
        int place = 0;
        for (int i = 0; i < tuples; i++) {
            place = store.take(1);
            store.move(0, place * 16);
            store.putReference(0, place);
        }
        return place;
    }

    private static int blacks(SnapshotHeap.Collector collector, int last) {
        int blacks = 0;
        for (int place = 1; place <= last; place++) {
            blacks += collector.marking().isBlack(place) ? 1 : 0;
        }
        return blacks;
    }

    private static SnapshotHeap.Store storeOf(SnapshotHeap heap) throws ReflectiveOperationException {
        Field field = SnapshotHeap.class.getDeclaredField("store");
        field.setAccessible(true);
        return (SnapshotHeap.Store) field.get(heap);
    }
}
