/** Faults that are planted in a heap are counted: check answers 0 because there are none. */
public final class AuditTest {
    private static final Expect EXPECT = new Expect();

    private final SnapshotHeap.Store store = new SnapshotHeap.Store();
    private final SnapshotHeap.Collector collector = new SnapshotHeap.Collector(store);
    private final SnapshotHeap.Audit audit =
        new SnapshotHeap.Audit(store, collector, new SnapshotHeap.Walk(store));
    private final int outer = store.take(2);
    private final int inner = store.take(1);
    private final int garbage = store.take(0);

    private AuditTest() {
        store.putReference(0, outer);
        store.putReference(outer * 16 + 1, inner);
        EXPECT.due("faults of a sound heap", audit.faults(), 0);
    }

    public static void main(String[] args) {
        new AuditTest().sweptThoughReachable();
        new AuditTest().releasedTwice();
        new AuditTest().markedAtRest();
        new AuditTest().hiddenFromMarking();
        new AuditTest().greyThatIsFree();
        new AuditTest().whiteBeforeTheSweep();
        new AuditTest().greyBeforeTheSweep();
        new AuditTest().blackBehindTheSweep();
        EXPECT.end();
    }

    private void sweptThoughReachable() {
        store.release(inner);
        EXPECT.due("a reachable tuple that was swept", audit.faults(), 1);
        store.release(outer);
        EXPECT.due("the one above it too", audit.faults(), 1);
    }

    private void releasedTwice() {
        store.release(garbage);
        EXPECT.due("garbage released", audit.faults(), 0);
        store.release(garbage);
        EXPECT.due("garbage released twice", audit.faults(), 1);
    }

    private void markedAtRest() {
        collector.marking().blacken(outer);
        collector.marking().shade(inner);
        EXPECT.due("marks at rest", audit.faults(), 2);
    }

    private void hiddenFromMarking() {
        collector.work(1);
        EXPECT.due("one marked, one waits", audit.faults(), 0);
        collector.marking().whiten(outer);
        EXPECT.due("a tuple that marking would miss", audit.faults(), 1);
    }

    private void greyThatIsFree() {
        collector.work(2);
        collector.marking().shade(garbage);
        EXPECT.due("garbage that waits", audit.faults(), 0);
        store.release(garbage);
        EXPECT.due("a mark on a free place", audit.faults(), 1);
    }

    private void whiteBeforeTheSweep() {
        collector.work(3);
        EXPECT.yes("sweeping", collector.phase() == SnapshotHeap.Phase.SWEEPING);
        EXPECT.due("one swept", audit.faults(), 0);
        collector.marking().whiten(inner);
        EXPECT.due("a tuple that the sweep would take", audit.faults(), 1);
    }

    private void greyBeforeTheSweep() {
        collector.work(3);
        collector.marking().shade(garbage);
        EXPECT.due("a mark that sweeping does not know", audit.faults(), 1);
    }

    private void blackBehindTheSweep() {
        collector.work(4);
        collector.marking().blacken(outer);
        EXPECT.due("a mark that is left behind", audit.faults(), 1);
    }
}
