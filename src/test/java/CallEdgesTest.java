import java.util.NoSuchElementException;

/** One test for each sentence of promises 1 to 8 that names an edge. */
public final class CallEdgesTest {
    private static final int[] NO_VALUES = {-1, 3, 4, 15, 16, Integer.MIN_VALUE, Integer.MAX_VALUE};
    private static final Expect EXPECT = new Expect();

    public static void main(String[] args) {
        newObjectIsEmpty();
        tupleOnEachRootOfEachSize();
        tupleHasNumbers0InAUsedPlace();
        tupleCountsFromOneWithoutRefusedOnes();
        tupleRefusesWrongRoots();
        tupleRefusesWrongSizes();
        tupleFitsTo1200CellsAndNotTo1201();
        tupleCountsItsRootAsItIs();
        tupleCountsNoGarbage();
        tupleCountsSharedTuplesOnce();
        numberTakesTheFirstAndLastRoot();
        numberRefusesWrongRoots();
        copyOntoItself();
        copyRefusesWrongRoots();
        getTakesTheFirstAndLastValue();
        getRefusesWrongRoots();
        getRefusesNumbers();
        getRefusesWrongValues();
        setTakesTheFirstAndLastValue();
        setRefusesWrongRoots();
        setRefusesNumbers();
        setRefusesWrongValues();
        stepTakes1To1000();
        stepRefusesOthers();
        paceTakes0To50();
        paceRefusesOthers();
        EXPECT.end();
    }

    /** 1: "ROOTS are 0; no TUPLES; PACE 3." */
    private static void newObjectIsEmpty() {
        SnapshotHeap heap = new SnapshotHeap();
        EXPECT.due("a new object's pace", heap.pace(0), 3);
        EXPECT.due("a new object's tuples", heap.count(0), 0);
        EXPECT.due("a new object's cells", heap.count(1), 0);
        EXPECT.due("tuples a new object made", heap.count(2), 0);
        EXPECT.due("a new object's digest", heap.digest(), Heaps.hashOf(new long[16]));
        EXPECT.due("a new object's first root", heap.size(0), -1);
        EXPECT.due("a new object's last root", heap.size(15), -1);
    }

    /** 2: "ROOT r becomes a new TUPLE of n NUMBERS 0" */
    private static void tupleOnEachRootOfEachSize() {
        for (int r = 0; r < 16; r++) {
            for (int n = 0; n <= 16; n++) {
                SnapshotHeap heap = new SnapshotHeap();
                heap.number(r, 5);
                EXPECT.due("the first tuple", heap.tuple(r, n), 1);
                EXPECT.due("its root's size", heap.size(r), n);
                EXPECT.due("its root's value", heap.value(r), 0);
                EXPECT.due("no other tuple", heap.count(0), 1);
                EXPECT.due("its digest", heap.digest(), digestOfOneTuple(r, n));
            }
        }
    }

    private static long digestOfOneTuple(int r, int n) {
        long[] parts = new long[17 + n];
        parts[r] = 3;
        parts[r + 1] = n;
        return Heaps.hashOf(parts);
    }

    /** 2: "of n NUMBERS 0", in a place where a tuple had other values */
    private static void tupleHasNumbers0InAUsedPlace() {
        for (int pace : new int[] {0, 3, 50}) {
            SnapshotHeap heap = new SnapshotHeap();
            heap.pace(pace);
            for (int made = 1; made <= 120; made++) {
                heap.number(0, 0);
                heap.tuple(0, 16);
                EXPECT.due("digest of tuple " + made, heap.digest(), digestOfOneTuple(0, 16));
                heap.set(0, made % 16, 0);
            }
        }
        leavesNoNumbersBehind();
    }

    private static void leavesNoNumbersBehind() {
        SnapshotHeap heap = new SnapshotHeap();
        for (int i = 0; i < 16; i++) {
            heap.number(0, i - 100);
            heap.tuple(1, 16);
            heap.set(1, i, 0);
            heap.number(0, 0);
            heap.number(1, 0);
            heap.collect();
            heap.tuple(0, 16);
            EXPECT.due("digest after a number at " + i, heap.digest(), digestOfOneTuple(0, 16));
        }
    }

    /** 2: "how many were made by now (refused ones not)" */
    private static void tupleCountsFromOneWithoutRefusedOnes() {
        SnapshotHeap heap = Heaps.full();
        int made = heap.count(2);
        EXPECT.refused("wrong root", IndexOutOfBoundsException.class, () -> heap.tuple(16, 0));
        EXPECT.refused("wrong size", IllegalArgumentException.class, () -> heap.tuple(0, 17));
        EXPECT.refused("no room", IllegalStateException.class, () -> heap.tuple(1, 0));
        EXPECT.due("made, after refused ones", heap.count(2), made);
        heap.number(0, 0);
        EXPECT.due("the next one after refused ones", heap.tuple(0, 0), made + 1);
        heap.number(0, 0);
        heap.collect();
        EXPECT.due("the next one after those before were collected", heap.tuple(0, 0), made + 2);
    }

    /** 2: "IndexOutOfBoundsException if r is not 0 to 15" */
    private static void tupleRefusesWrongRoots() {
        SnapshotHeap heap = new SnapshotHeap();
        for (int r : Heaps.NO_ROOTS) {
            EXPECT.refused("tuple(" + r + ", 1)", IndexOutOfBoundsException.class, () -> heap.tuple(r, 1));
        }
        EXPECT.due("tuple(0, 1)", heap.tuple(0, 1), 1);
        EXPECT.due("tuple(15, 1)", heap.tuple(15, 1), 2);
    }

    /** 2: "IllegalArgumentException if n is not 0 to 16" */
    private static void tupleRefusesWrongSizes() {
        SnapshotHeap heap = new SnapshotHeap();
        for (int n : new int[] {-1, -2, -3, 17, 18, 1200, Integer.MIN_VALUE, Integer.MAX_VALUE, Integer.MAX_VALUE - 1}) {
            EXPECT.refused("tuple(0, " + n + ")", IllegalArgumentException.class, () -> heap.tuple(0, n));
        }
        EXPECT.due("tuple(0, 0)", heap.tuple(0, 0), 1);
        EXPECT.due("tuple(0, 16)", heap.tuple(0, 16), 2);
    }

    /** 2: "IllegalStateException if the CELLS of what can be reached and its own are more than 1200" */
    private static void tupleFitsTo1200CellsAndNotTo1201() {
        for (int n = 0; n <= 16; n++) {
            int size = n;
            int most = Heaps.MOST_CELLS - n - 2;
            SnapshotHeap fits = Heaps.withCells(0, most);
            int made = fits.count(2);
            EXPECT.due("1200 cells with a tuple of " + n, fits.tuple(1, n), made + 1);
            EXPECT.due("all cells", fits.count(1), Heaps.MOST_CELLS);
            SnapshotHeap full = Heaps.withCells(0, most + 1);
            EXPECT.refused("1201 cells with a tuple of " + n, IllegalStateException.class, () -> full.tuple(1, size));
            EXPECT.due("the cells before", full.count(1), most + 1);
            EXPECT.due("its root as it was", full.size(1), -1);
        }
    }

    /** 2: "(by ROOT r as it is, too)" */
    private static void tupleCountsItsRootAsItIs() {
        SnapshotHeap heap = Heaps.withCells(0, Heaps.MOST_CELLS - 18);
        heap.tuple(5, 16);
        for (int n = 0; n <= 16; n++) {
            int size = n;
            EXPECT.refused("onto the root that fills it", IllegalStateException.class, () -> heap.tuple(5, size));
        }
        EXPECT.due("the root as it is", heap.size(5), 16);
        heap.number(5, 0);
        EXPECT.due("once the root is a number", heap.size(5), -1);
        int made = heap.count(2);
        EXPECT.due("there is room again", heap.tuple(5, 16), made + 1);
        EXPECT.refused("a root that holds it all", IllegalStateException.class, () -> heap.tuple(0, 0));
    }

    /** 2: "what can be reached": garbage takes no room, however far marking and sweeping are */
    private static void tupleCountsNoGarbage() {
        for (int step = 0; step <= 200; step += step < 10 ? 1 : 10) {
            SnapshotHeap heap = Heaps.full();
            heap.pace(0);
            int made = heap.count(2);
            stepIfAny(heap, step / 2);
            heap.number(0, 0);
            stepIfAny(heap, step - step / 2);
            for (int i = 1; i <= 67; i++) {
                EXPECT.due("all is garbage, at " + step, heap.tuple(0, 16), made + i);
            }
            EXPECT.due("check(), at " + step, heap.check(), 0);
        }
    }

    private static void stepIfAny(SnapshotHeap heap, int step) {
        if (step > 0) {
            heap.step(step);
        }
    }

    /** 2: "the CELLS of what can be reached", each tuple once */
    private static void tupleCountsSharedTuplesOnce() {
        SnapshotHeap heap = Heaps.withCells(0, Heaps.MOST_CELLS - 20);
        heap.tuple(1, 16);
        for (int i = 0; i < 16; i++) {
            heap.set(1, i, i % 2);
        }
        for (int r = 2; r < 16; r++) {
            heap.copy(r, r % 2);
        }
        int made = heap.count(2);
        EXPECT.due("shared tuples take room once", heap.tuple(15, 0), made + 1);
        EXPECT.refused("now it is full", IllegalStateException.class, () -> heap.tuple(15, 0));
    }

    /** 3: "ROOT r becomes the NUMBER v" */
    private static void numberTakesTheFirstAndLastRoot() {
        for (int r : new int[] {0, 15}) {
            for (long v : new long[] {Long.MIN_VALUE, -1, 0, 1, Long.MAX_VALUE}) {
                SnapshotHeap heap = new SnapshotHeap();
                heap.tuple(r, 16);
                heap.number(r, v);
                EXPECT.due("value of the number " + v, heap.value(r), v);
                EXPECT.due("size of the number " + v, heap.size(r), -1);
                EXPECT.due("what it was is garbage", heap.count(0), 0);
            }
        }
    }

    /** 3: "IndexOutOfBoundsException if r is not 0 to 15" */
    private static void numberRefusesWrongRoots() {
        SnapshotHeap heap = new SnapshotHeap();
        for (int r : Heaps.NO_ROOTS) {
            EXPECT.refused("number(" + r + ", 1)", IndexOutOfBoundsException.class, () -> heap.number(r, 1));
        }
    }

    /** 4: "ROOT r becomes what ROOT s is" */
    private static void copyOntoItself() {
        SnapshotHeap heap = new SnapshotHeap();
        heap.tuple(0, 4);
        heap.copy(0, 0);
        EXPECT.due("a reference onto itself", heap.size(0), 4);
        heap.copy(15, 0);
        EXPECT.yes("first root to last", heap.same(15, 0));
        heap.number(15, Long.MIN_VALUE);
        heap.copy(15, 15);
        EXPECT.due("a number onto itself", heap.value(15), Long.MIN_VALUE);
        heap.copy(0, 15);
        EXPECT.due("last root to first", heap.value(0), Long.MIN_VALUE);
        EXPECT.due("a number over the last reference", heap.count(0), 0);
    }

    /** 4: "Thrown as by number (of both)." */
    private static void copyRefusesWrongRoots() {
        SnapshotHeap heap = new SnapshotHeap();
        for (int no : Heaps.NO_ROOTS) {
            EXPECT.refused("copy(" + no + ", 0)", IndexOutOfBoundsException.class, () -> heap.copy(no, 0));
            EXPECT.refused("copy(0, " + no + ")", IndexOutOfBoundsException.class, () -> heap.copy(0, no));
            EXPECT.refused("copy(" + no + ", " + no + ")", IndexOutOfBoundsException.class, () -> heap.copy(no, no));
        }
    }

    /** 5: "ROOT r becomes VALUE i of the TUPLE to which ROOT s refers" */
    private static void getTakesTheFirstAndLastValue() {
        for (int n = 1; n <= 16; n++) {
            SnapshotHeap heap = new SnapshotHeap();
            heap.tuple(15, n);
            heap.number(0, 70);
            heap.set(15, 0, 0);
            heap.number(0, 80);
            heap.set(15, n - 1, 0);
            heap.get(0, 15, n - 1);
            EXPECT.due("the last value of " + n, heap.value(0), 80);
            heap.get(15, 15, 0);
            EXPECT.due("the first value of " + n + ", into its own root", heap.value(15), n == 1 ? 80 : 70);
        }
    }

    /** 5: "IndexOutOfBoundsException if r or s is not 0 to 15" */
    private static void getRefusesWrongRoots() {
        SnapshotHeap heap = new SnapshotHeap();
        heap.tuple(0, 1);
        for (int no : Heaps.NO_ROOTS) {
            EXPECT.refused("get(" + no + ", 0, 0)", IndexOutOfBoundsException.class, () -> heap.get(no, 0, 0));
            EXPECT.refused("get(0, " + no + ", 0)", IndexOutOfBoundsException.class, () -> heap.get(0, no, 0));
        }
    }

    /** 5: "NoSuchElementException if ROOT s is a NUMBER" */
    private static void getRefusesNumbers() {
        SnapshotHeap heap = new SnapshotHeap();
        heap.tuple(0, 16);
        for (long v : new long[] {0, 1, 2, -1, Long.MAX_VALUE}) {
            heap.number(1, v);
            EXPECT.refused("get from the number " + v, NoSuchElementException.class, () -> heap.get(2, 1, 0));
        }
        heap.copy(3, 0);
        heap.number(3, 0);
        EXPECT.refused("get from a number over a reference", NoSuchElementException.class, () -> heap.get(2, 3, 0));
    }

    /** 5: "or there is no such VALUE" */
    private static void getRefusesWrongValues() {
        SnapshotHeap heap = new SnapshotHeap();
        heap.tuple(0, 3);
        heap.tuple(1, 0);
        heap.tuple(2, 16);
        for (int i : NO_VALUES) {
            EXPECT.refused("get(3, 0, " + i + ") of 3", NoSuchElementException.class, () -> heap.get(3, 0, i));
            EXPECT.refused("get(3, 1, " + i + ") of none", NoSuchElementException.class, () -> heap.get(3, 1, i));
        }
        EXPECT.refused("get(3, 1, 0) of none", NoSuchElementException.class, () -> heap.get(3, 1, 0));
        EXPECT.refused("get(3, 2, 16) of 16", NoSuchElementException.class, () -> heap.get(3, 2, 16));
        EXPECT.refused("get(3, 2, -1) of 16", NoSuchElementException.class, () -> heap.get(3, 2, -1));
    }

    /** 6: "VALUE i of the TUPLE to which ROOT s refers becomes what ROOT r is" */
    private static void setTakesTheFirstAndLastValue() {
        for (int n = 1; n <= 16; n++) {
            SnapshotHeap heap = new SnapshotHeap();
            heap.tuple(0, n);
            heap.tuple(15, n);
            heap.number(1, Long.MAX_VALUE);
            heap.set(0, 0, 1);
            heap.set(0, n - 1, 0);
            heap.get(2, 0, n - 1);
            EXPECT.yes("a tuple as its own last value of " + n, heap.same(2, 0));
            heap.get(2, 0, 0);
            EXPECT.due("the first value of " + n, heap.value(2), n == 1 ? 0 : Long.MAX_VALUE);
            heap.get(2, 15, n - 1);
            EXPECT.yes("the tuple beside it stays", heap.same(2, 3));
        }
    }

    /** 6: "Thrown as by get": wrong roots */
    private static void setRefusesWrongRoots() {
        SnapshotHeap heap = new SnapshotHeap();
        heap.tuple(0, 1);
        for (int no : Heaps.NO_ROOTS) {
            EXPECT.refused("set(" + no + ", 0, 0)", IndexOutOfBoundsException.class, () -> heap.set(no, 0, 0));
            EXPECT.refused("set(0, 0, " + no + ")", IndexOutOfBoundsException.class, () -> heap.set(0, 0, no));
        }
    }

    /** 6: "Thrown as by get": a number */
    private static void setRefusesNumbers() {
        SnapshotHeap heap = new SnapshotHeap();
        heap.tuple(0, 16);
        for (long v : new long[] {0, 1, 2, -1, Long.MAX_VALUE}) {
            heap.number(1, v);
            EXPECT.refused("set in the number " + v, NoSuchElementException.class, () -> heap.set(1, 0, 0));
        }
        EXPECT.due("a refused set leaves the root", heap.value(1), Long.MAX_VALUE);
    }

    /** 6: "Thrown as by get": no such value */
    private static void setRefusesWrongValues() {
        SnapshotHeap heap = new SnapshotHeap();
        heap.tuple(0, 3);
        heap.tuple(1, 0);
        heap.tuple(2, 16);
        for (int i : NO_VALUES) {
            EXPECT.refused("set(0, " + i + ", 3) of 3", NoSuchElementException.class, () -> heap.set(0, i, 3));
            EXPECT.refused("set(1, " + i + ", 3) of none", NoSuchElementException.class, () -> heap.set(1, i, 3));
        }
        EXPECT.refused("set(1, 0, 3) of none", NoSuchElementException.class, () -> heap.set(1, 0, 3));
        EXPECT.refused("set(2, 16, 3) of 16", NoSuchElementException.class, () -> heap.set(2, 16, 3));
        EXPECT.refused("set(2, -1, 3) of 16", NoSuchElementException.class, () -> heap.set(2, -1, 3));
    }

    /** 7: "n (1 to 1000) TUPLES are marked, or so many places swept", on an empty and a full heap too */
    private static void stepTakes1To1000() {
        for (int n : new int[] {1, 2, 999, 1000}) {
            SnapshotHeap empty = new SnapshotHeap();
            empty.step(n);
            EXPECT.due("an empty heap after step(" + n + ")", empty.check(), 0);
            EXPECT.due("tuples of an empty heap after step(" + n + ")", empty.count(0), 0);
            SnapshotHeap full = Heaps.full();
            long before = full.digest();
            full.step(n);
            EXPECT.due("a full heap after step(" + n + ")", full.check(), 0);
            EXPECT.due("digest of a full heap after step(" + n + ")", full.digest(), before);
        }
    }

    /** 7: "IllegalArgumentException for another n." */
    private static void stepRefusesOthers() {
        SnapshotHeap heap = new SnapshotHeap();
        for (int n : new int[] {0, -1, 1001, Integer.MIN_VALUE, Integer.MAX_VALUE}) {
            EXPECT.refused("step(" + n + ")", IllegalArgumentException.class, () -> heap.step(n));
        }
    }

    /** 8: "PACE is n (0 to 50): what it was" */
    private static void paceTakes0To50() {
        SnapshotHeap heap = new SnapshotHeap();
        int before = 3;
        for (int n = 0; n <= 50; n++) {
            EXPECT.due("pace(" + n + ")", heap.pace(n), before);
            before = n;
        }
        EXPECT.due("pace(0) after 50", heap.pace(0), 50);
        EXPECT.due("pace(0) after 0", heap.pace(0), 0);
    }

    /** 8: "IllegalArgumentException for another n." */
    private static void paceRefusesOthers() {
        SnapshotHeap heap = new SnapshotHeap();
        heap.pace(50);
        for (int n : new int[] {-1, 51, Integer.MIN_VALUE, Integer.MAX_VALUE}) {
            EXPECT.refused("pace(" + n + ")", IllegalArgumentException.class, () -> heap.pace(n));
        }
        EXPECT.due("pace after refused ones", heap.pace(0), 50);
    }
}
