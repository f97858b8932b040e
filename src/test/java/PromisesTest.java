import java.util.NoSuchElementException;

/** Each promise of the document: ordinary inputs, the edges that it names, and wrong inputs. */
public final class PromisesTest {
    private static final int[] NO_ROOTS = {-1, 16, Integer.MIN_VALUE, Integer.MAX_VALUE};
    private static final Expect EXPECT = new Expect();

    public static void main(String[] args) {
        newObject();
        tuple();
        tupleAtTheLimit();
        tupleCountsWhatItsRootHolds();
        tupleRefusals();
        number();
        copy();
        get();
        set();
        valueRefusals();
        step();
        pace();
        size();
        value();
        same();
        count();
        digestOfNumbers();
        digestOfTuples();
        digestOfLongChain();
        collect();
        check();
        refusalsChangeNothing();
        EXPECT.end();
    }

    private static void newObject() {
        SnapshotHeap heap = new SnapshotHeap();
        for (int r = 0; r < 16; r++) {
            EXPECT.due("new: value(" + r + ")", heap.value(r), 0);
            EXPECT.due("new: size(" + r + ")", heap.size(r), -1);
        }
        EXPECT.due("new: count(0)", heap.count(0), 0);
        EXPECT.due("new: count(1)", heap.count(1), 0);
        EXPECT.due("new: count(2)", heap.count(2), 0);
        EXPECT.due("new: pace(3)", heap.pace(3), 3);
        EXPECT.due("new: collect()", heap.collect(), 0);
    }

    private static void tuple() {
        SnapshotHeap heap = new SnapshotHeap();
        heap.number(1, 9);
        heap.number(15, 9);
        EXPECT.due("tuple(0, 0)", heap.tuple(0, 0), 1);
        EXPECT.due("tuple(15, 16)", heap.tuple(15, 16), 2);
        EXPECT.due("tuple(15, 16) again", heap.tuple(15, 16), 3);
        EXPECT.due("size(0)", heap.size(0), 0);
        EXPECT.due("size(15)", heap.size(15), 16);
        for (int i = 0; i < 16; i++) {
            heap.get(1, 15, i);
            EXPECT.due("a new tuple's value " + i, heap.value(1), 0);
            EXPECT.due("a new tuple's value " + i + " is a number", heap.size(1), -1);
        }
    }

    /** Values that a tuple had must not come back in one that takes its place. */
    private static void tupleAtTheLimit() {
        SnapshotHeap heap = new SnapshotHeap();
        heap.pace(0);
        heap.number(1, 77);
        for (int made = 1; made <= 120; made++) {
            EXPECT.due("tuple(0, 16)", heap.tuple(0, 16), made);
            heap.get(2, 0, 15);
            EXPECT.due("the last value of a new tuple", heap.value(2), 0);
            heap.set(0, 15, 1);
        }
        EXPECT.due("check()", heap.check(), 0);
    }

    private static void tupleCountsWhatItsRootHolds() {
        SnapshotHeap heap = new SnapshotHeap();
        for (int i = 0; i < 66; i++) {
            heap.tuple(1, 16);
            heap.set(1, 0, 0);
            heap.copy(0, 1);
        }
        EXPECT.due("cells of 66 tuples of 16", heap.count(1), 1188);
        EXPECT.refused("1188 and 13 cells", IllegalStateException.class, () -> heap.tuple(2, 11));
        EXPECT.refused("1188 and 13 cells, onto a root", IllegalStateException.class, () -> heap.tuple(1, 11));
        EXPECT.due("1188 and 12 cells", heap.tuple(2, 10), 67);
        EXPECT.due("cells", heap.count(1), 1200);
        EXPECT.refused("its own root is counted too", IllegalStateException.class, () -> heap.tuple(2, 0));
        EXPECT.due("root 2 stays", heap.size(2), 10);
        EXPECT.due("refused ones are not made", heap.count(2), 67);
        heap.number(2, 0);
        EXPECT.due("room again", heap.tuple(2, 10), 68);
        EXPECT.due("check()", heap.check(), 0);
    }

    private static void tupleRefusals() {
        SnapshotHeap heap = new SnapshotHeap();
        for (int r : NO_ROOTS) {
            EXPECT.refused("tuple(" + r + ", 1)", IndexOutOfBoundsException.class, () -> heap.tuple(r, 1));
            EXPECT.refused("tuple(" + r + ", 17)", IndexOutOfBoundsException.class, () -> heap.tuple(r, 17));
        }
        for (int n : new int[] {-1, 17, Integer.MIN_VALUE, Integer.MAX_VALUE}) {
            EXPECT.refused("tuple(0, " + n + ")", IllegalArgumentException.class, () -> heap.tuple(0, n));
        }
        EXPECT.due("none was made", heap.count(2), 0);
        EXPECT.due("the next one is the first", heap.tuple(0, 1), 1);
        fill(heap);
        EXPECT.refused("a full heap, wrong n", IllegalArgumentException.class, () -> heap.tuple(0, 17));
        EXPECT.refused("a full heap, wrong r", IndexOutOfBoundsException.class, () -> heap.tuple(16, 16));
    }

    private static void number() {
        SnapshotHeap heap = new SnapshotHeap();
        long[] numbers = {0, 1, -1, Long.MIN_VALUE, Long.MAX_VALUE, 1L << 32};
        for (long v : numbers) {
            heap.tuple(15, 2);
            heap.number(15, v);
            EXPECT.due("value(15) of " + v, heap.value(15), v);
            EXPECT.due("size(15) of " + v, heap.size(15), -1);
        }
        EXPECT.due("count(0)", heap.count(0), 0);
        for (int r : NO_ROOTS) {
            EXPECT.refused("number(" + r + ", 1)", IndexOutOfBoundsException.class, () -> heap.number(r, 1));
        }
    }

    private static void copy() {
        SnapshotHeap heap = new SnapshotHeap();
        heap.number(3, 12);
        heap.copy(0, 3);
        EXPECT.due("a number copied", heap.value(0), 12);
        EXPECT.due("the copied number stays", heap.value(3), 12);
        heap.tuple(4, 5);
        heap.copy(0, 4);
        EXPECT.due("a reference copied", heap.size(0), 5);
        EXPECT.due("no second tuple", heap.count(0), 1);
        heap.copy(4, 4);
        EXPECT.due("onto itself", heap.size(4), 5);
        for (int r : NO_ROOTS) {
            EXPECT.refused("copy(" + r + ", 0)", IndexOutOfBoundsException.class, () -> heap.copy(r, 0));
            EXPECT.refused("copy(0, " + r + ")", IndexOutOfBoundsException.class, () -> heap.copy(0, r));
        }
    }

    private static void get() {
        SnapshotHeap heap = new SnapshotHeap();
        heap.tuple(0, 16);
        heap.tuple(1, 2);
        heap.number(2, -8);
        heap.set(0, 0, 1);
        heap.set(0, 15, 2);
        heap.get(3, 0, 0);
        EXPECT.due("a reference got", heap.same(3, 1) ? 1 : 0, 1);
        heap.get(3, 0, 15);
        EXPECT.due("a number got", heap.value(3), -8);
        heap.get(0, 0, 0);
        EXPECT.due("into the root it came from", heap.size(0), 2);
    }

    private static void set() {
        SnapshotHeap heap = new SnapshotHeap();
        heap.tuple(0, 2);
        heap.copy(1, 0);
        heap.set(0, 1, 0);
        heap.number(2, 6);
        heap.set(1, 0, 2);
        heap.number(2, 7);
        heap.get(3, 0, 0);
        EXPECT.due("seen through another root", heap.value(3), 6);
        heap.get(3, 0, 1);
        EXPECT.due("a tuple in itself", heap.same(3, 0) ? 1 : 0, 1);
        heap.set(0, 1, 2);
        heap.get(3, 0, 1);
        EXPECT.due("a number over a reference", heap.value(3), 7);
    }

    private static void valueRefusals() {
        SnapshotHeap heap = new SnapshotHeap();
        heap.tuple(0, 3);
        heap.tuple(1, 0);
        for (int r : NO_ROOTS) {
            EXPECT.refused("get(" + r + ", 2, 9)", IndexOutOfBoundsException.class, () -> heap.get(r, 2, 9));
            EXPECT.refused("get(2, " + r + ", 9)", IndexOutOfBoundsException.class, () -> heap.get(2, r, 9));
            EXPECT.refused("set(" + r + ", 9, 2)", IndexOutOfBoundsException.class, () -> heap.set(r, 9, 2));
            EXPECT.refused("set(2, 9, " + r + ")", IndexOutOfBoundsException.class, () -> heap.set(2, 9, r));
        }
        for (int i : new int[] {-1, 3, Integer.MIN_VALUE, Integer.MAX_VALUE}) {
            EXPECT.refused("get(4, 0, " + i + ")", NoSuchElementException.class, () -> heap.get(4, 0, i));
            EXPECT.refused("set(0, " + i + ", 4)", NoSuchElementException.class, () -> heap.set(0, i, 4));
        }
        EXPECT.refused("get from an empty tuple", NoSuchElementException.class, () -> heap.get(4, 1, 0));
        EXPECT.refused("set in an empty tuple", NoSuchElementException.class, () -> heap.set(1, 0, 4));
        EXPECT.refused("get from a number", NoSuchElementException.class, () -> heap.get(4, 2, 0));
        EXPECT.refused("set in a number", NoSuchElementException.class, () -> heap.set(2, 0, 4));
    }

    private static void step() {
        SnapshotHeap heap = new SnapshotHeap();
        heap.pace(0);
        heap.tuple(0, 2);
        heap.set(0, 0, 0);
        long before = heap.digest();
        for (int n : new int[] {1, 2, 999, 1000}) {
            heap.step(n);
            EXPECT.due("digest() after step(" + n + ")", heap.digest(), before);
            EXPECT.due("check() after step(" + n + ")", heap.check(), 0);
        }
        for (int n : new int[] {0, -1, 1001, Integer.MIN_VALUE, Integer.MAX_VALUE}) {
            EXPECT.refused("step(" + n + ")", IllegalArgumentException.class, () -> heap.step(n));
        }
    }

    private static void pace() {
        SnapshotHeap heap = new SnapshotHeap();
        EXPECT.due("pace(0)", heap.pace(0), 3);
        EXPECT.due("pace(50)", heap.pace(50), 0);
        for (int n : new int[] {-1, 51, Integer.MIN_VALUE, Integer.MAX_VALUE}) {
            EXPECT.refused("pace(" + n + ")", IllegalArgumentException.class, () -> heap.pace(n));
        }
        EXPECT.due("pace(1)", heap.pace(1), 50);
        EXPECT.due("pace(1) again", heap.pace(1), 1);
    }

    private static void size() {
        SnapshotHeap heap = new SnapshotHeap();
        for (int n = 0; n <= 16; n++) {
            heap.tuple(n % 16, n);
            EXPECT.due("size(" + n % 16 + ")", heap.size(n % 16), n);
        }
        heap.number(5, 5);
        EXPECT.due("size of a number", heap.size(5), -1);
        for (int r : NO_ROOTS) {
            EXPECT.refused("size(" + r + ")", IndexOutOfBoundsException.class, () -> heap.size(r));
        }
    }

    private static void value() {
        SnapshotHeap heap = new SnapshotHeap();
        heap.number(0, 41);
        EXPECT.due("value(0)", heap.value(0), 41);
        heap.tuple(0, 1);
        EXPECT.due("value of a new reference", heap.value(0), 0);
        heap.number(1, 41);
        heap.copy(1, 0);
        EXPECT.due("value of a copied reference", heap.value(1), 0);
        for (int r : NO_ROOTS) {
            EXPECT.refused("value(" + r + ")", IndexOutOfBoundsException.class, () -> heap.value(r));
        }
    }

    private static void same() {
        SnapshotHeap heap = new SnapshotHeap();
        heap.number(0, 1);
        heap.number(1, 1);
        heap.number(2, 2);
        heap.tuple(3, 0);
        heap.tuple(4, 0);
        heap.copy(5, 3);
        EXPECT.due("the same number", heap.same(0, 1) ? 1 : 0, 1);
        EXPECT.due("other numbers", heap.same(0, 2) ? 1 : 0, 0);
        EXPECT.due("the first tuple and 1", heap.same(3, 0) ? 1 : 0, 0);
        EXPECT.due("0 and a tuple", heap.same(6, 3) ? 1 : 0, 0);
        EXPECT.due("tuples that are alike", heap.same(3, 4) ? 1 : 0, 0);
        EXPECT.due("the same tuple", heap.same(3, 5) ? 1 : 0, 1);
        EXPECT.due("a root and itself", heap.same(4, 4) ? 1 : 0, 1);
        heap.number(7, 1L << 32);
        EXPECT.due("0 and 2 to the 32nd", heap.same(6, 7) ? 1 : 0, 0);
        for (int r : NO_ROOTS) {
            EXPECT.refused("same(" + r + ", 0)", IndexOutOfBoundsException.class, () -> heap.same(r, 0));
            EXPECT.refused("same(0, " + r + ")", IndexOutOfBoundsException.class, () -> heap.same(0, r));
        }
    }

    private static void count() {
        SnapshotHeap heap = new SnapshotHeap();
        heap.pace(0);
        heap.tuple(0, 2);
        heap.tuple(1, 3);
        heap.set(0, 0, 1);
        heap.set(1, 0, 0);
        heap.tuple(1, 4);
        EXPECT.due("tuples", heap.count(0), 3);
        EXPECT.due("cells", heap.count(1), 15);
        heap.number(0, 0);
        EXPECT.due("tuples without a ring of garbage", heap.count(0), 1);
        EXPECT.due("cells without it", heap.count(1), 6);
        EXPECT.due("tuples made", heap.count(2), 3);
        heap.collect();
        EXPECT.due("tuples made, after collect", heap.count(2), 3);
        for (int what : new int[] {-1, 3, Integer.MIN_VALUE, Integer.MAX_VALUE}) {
            EXPECT.refused("count(" + what + ")", IllegalArgumentException.class, () -> heap.count(what));
        }
    }

    private static void digestOfNumbers() {
        SnapshotHeap heap = new SnapshotHeap();
        long hash = 7;
        for (int r = 0; r < 16; r++) {
            heap.number(r, r * 1_000_000_007L - 5);
            hash = 31 * hash + r * 1_000_000_007L - 5;
        }
        EXPECT.due("digest of numbers", heap.digest(), hash);
    }

    /** Root 0: (5, b, a); b: (a); root 1: b; root 2: an empty tuple; root 3: the same. */
    private static void digestOfTuples() {
        SnapshotHeap heap = new SnapshotHeap();
        heap.tuple(0, 3);
        heap.tuple(1, 1);
        heap.set(1, 0, 0);
        heap.number(2, 5);
        heap.set(0, 0, 2);
        heap.set(0, 1, 1);
        heap.set(0, 2, 0);
        heap.tuple(2, 0);
        heap.copy(3, 2);
        long[] parts = {3, 3, 5, 3, 1, 3, 3, 4, 3, 0, 5, 0, 0, 0, 0, 0, 0, 0, 0, 0, 0, 0, 0};
        long hash = 7;
        for (long part : parts) {
            hash = 31 * hash + part;
        }
        EXPECT.due("digest of tuples", heap.digest(), hash);
        EXPECT.due("digest of tuples again", heap.digest(), hash);
    }

    private static void digestOfLongChain() {
        SnapshotHeap heap = new SnapshotHeap();
        PlainHeap plain = new PlainHeap();
        for (int i = 0; i < 250; i++) {
            heap.tuple(i % 2, 1);
            heap.set(i % 2, 0, 1 - i % 2);
            plain.tuple(i % 2, 1);
            plain.set(i % 2, 0, 1 - i % 2);
        }
        EXPECT.due("digest of a chain of 250", heap.digest(), plain.digest());
        EXPECT.due("tuples of a chain of 250", heap.count(0), 250);
        EXPECT.due("check of a chain of 250", heap.check(), 0);
    }

    private static void collect() {
        SnapshotHeap heap = new SnapshotHeap();
        for (int pace = 0; pace <= 50; pace += 10) {
            heap.pace(pace);
            heap.tuple(0, 2);
            heap.tuple(1, 2);
            heap.set(0, 0, 1);
            heap.set(1, 0, 0);
            EXPECT.due("collect() of a ring", heap.collect(), 2);
            heap.step(1);
            heap.number(1, 0);
            EXPECT.due("collect() of a ring on one root", heap.collect(), 2);
            heap.step(1);
            heap.number(0, 0);
            EXPECT.due("collect() of garbage in an open cycle", heap.collect(), 0);
        }
    }

    private static void check() {
        SnapshotHeap heap = new SnapshotHeap();
        EXPECT.due("check() of a new object", heap.check(), 0);
        fill(heap);
        EXPECT.due("check() of a full heap", heap.check(), 0);
        for (int r = 0; r < 16; r++) {
            heap.number(r, 1);
            EXPECT.due("check() as it empties", heap.check(), 0);
        }
        heap.collect();
        EXPECT.due("check() of an empty heap", heap.check(), 0);
    }

    private static void refusalsChangeNothing() {
        SnapshotHeap heap = new SnapshotHeap();
        heap.tuple(0, 1);
        heap.number(1, 4);
        long before = heap.digest();
        EXPECT.refused("tuple", IllegalArgumentException.class, () -> heap.tuple(0, 17));
        EXPECT.refused("copy", IndexOutOfBoundsException.class, () -> heap.copy(0, 16));
        EXPECT.refused("get", NoSuchElementException.class, () -> heap.get(0, 1, 0));
        EXPECT.refused("set", NoSuchElementException.class, () -> heap.set(0, 1, 1));
        EXPECT.refused("pace", IllegalArgumentException.class, () -> heap.pace(51));
        EXPECT.due("digest after refusals", heap.digest(), before);
        EXPECT.due("pace after refusals", heap.pace(3), 3);
        EXPECT.due("made after refusals", heap.count(2), 1);
    }

    /** Leaves no room for another tuple, all of it in a chain on root 0. */
    private static void fill(SnapshotHeap heap) {
        heap.number(0, 0);
        heap.number(1, 0);
        for (int i = 0; i < 66; i++) {
            heap.tuple(1, 16);
            heap.set(1, 15, 0);
            heap.copy(0, 1);
        }
        heap.tuple(1, 10);
        heap.set(1, 0, 0);
        heap.copy(0, 1);
        EXPECT.due("cells of a full heap", heap.count(1), 1200);
    }
}
