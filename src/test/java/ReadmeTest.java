/** The example of README.md, with the answers that stand beside its calls. */
public final class ReadmeTest {
    public static void main(String[] args) {
        Expect expect = new Expect();
        SnapshotHeap heap = new SnapshotHeap();
        expect.due("tuple(0, 2)", heap.tuple(0, 2), 1);
        heap.number(1, 42);
        heap.set(0, 1, 1);
        heap.get(2, 0, 1);
        expect.due("value(2)", heap.value(2), 42);
        expect.due("size(0)", heap.size(0), 2);
        expect.due("count(1)", heap.count(1), 4);
        heap.number(0, 0);
        heap.step(100);
        expect.due("collect()", heap.collect(), 0);
        expect.end();
    }
}
