/** One test for each sentence of promises 9 to 15 that names an edge. */
public final class QuestionEdgesTest {
    private static final Expect EXPECT = new Expect();

    public static void main(String[] args) {
        sizeOfTheEmptyAndTheWidestTuple();
        sizeOfNumbers();
        sizeRefusesWrongRoots();
        valueAtTheEndsOfItsRange();
        valueOfReferences();
        valueRefusesWrongRoots();
        sameNumber();
        sameTuple();
        sameIsFalseOfANumberAndAReference();
        sameRefusesWrongRoots();
        countOfTheEmptyHeap();
        countOfTheFullHeap();
        countOfTuplesMade();
        countRefusesOthers();
        digestOfTheEmptyHeap();
        digestWrapsAround();
        digestOfEmptyTuples();
        digestOfATupleInItself();
        digestOfATupleMetFromAnotherRoot();
        digestNumbersTuplesAsTheyAreMet();
        digestGoesIntoEachValueBeforeTheNext();
        digestOfTheDeepestChain();
        collectOfTheEmptyHeap();
        collectOfTheFullHeap();
        collectTakesGarbageOfAnOpenCycle();
        checkIsAlways0();
        EXPECT.end();
    }

    /** 9: "How many VALUES the TUPLE has to which ROOT r refers" */
    private static void sizeOfTheEmptyAndTheWidestTuple() {
        SnapshotHeap heap = new SnapshotHeap();
        heap.tuple(0, 0);
        heap.tuple(15, 16);
        EXPECT.due("size of an empty tuple", heap.size(0), 0);
        EXPECT.due("size of the widest tuple", heap.size(15), 16);
    }

    /** 9: "-1 if it is a NUMBER" */
    private static void sizeOfNumbers() {
        SnapshotHeap heap = new SnapshotHeap();
        heap.tuple(0, 16);
        for (long v : new long[] {0, 1, -1, Long.MIN_VALUE, Long.MAX_VALUE}) {
            heap.number(0, v);
            EXPECT.due("size of the number " + v, heap.size(0), -1);
        }
    }

    /** 9: "IndexOutOfBoundsException if r is not 0 to 15." */
    private static void sizeRefusesWrongRoots() {
        SnapshotHeap heap = new SnapshotHeap();
        for (int r : Heaps.NO_ROOTS) {
            EXPECT.refused("size(" + r + ")", IndexOutOfBoundsException.class, () -> heap.size(r));
        }
    }

    /** 10: "The NUMBER that ROOT r is" */
    private static void valueAtTheEndsOfItsRange() {
        SnapshotHeap heap = new SnapshotHeap();
        heap.number(0, Long.MIN_VALUE);
        heap.number(15, Long.MAX_VALUE);
        EXPECT.due("the least number", heap.value(0), Long.MIN_VALUE);
        EXPECT.due("the greatest number", heap.value(15), Long.MAX_VALUE);
    }

    /** 10: "0 for REFERENCES" */
    private static void valueOfReferences() {
        SnapshotHeap heap = new SnapshotHeap();
        for (int r = 0; r < 4; r++) {
            heap.number(r, -7);
        }
        heap.tuple(0, 2);
        EXPECT.due("a new tuple's value", heap.value(0), 0);
        heap.copy(1, 0);
        EXPECT.due("a copied reference's value", heap.value(1), 0);
        heap.set(0, 0, 2);
        heap.set(0, 0, 1);
        heap.get(2, 0, 0);
        EXPECT.due("a got reference's value", heap.value(2), 0);
        EXPECT.yes("which is a reference", heap.size(2) == 2);
    }

    /** 10: "Thrown as by size." */
    private static void valueRefusesWrongRoots() {
        SnapshotHeap heap = new SnapshotHeap();
        for (int r : Heaps.NO_ROOTS) {
            EXPECT.refused("value(" + r + ")", IndexOutOfBoundsException.class, () -> heap.value(r));
        }
    }

    /** 11: "Whether ROOTS r and s are the same NUMBER" */
    private static void sameNumber() {
        SnapshotHeap heap = new SnapshotHeap();
        heap.number(0, Long.MIN_VALUE);
        heap.number(15, Long.MIN_VALUE);
        EXPECT.yes("the least number twice", heap.same(0, 15));
        EXPECT.yes("a root and itself", heap.same(0, 0));
        heap.number(15, Long.MAX_VALUE);
        EXPECT.yes("least and greatest differ", !heap.same(0, 15));
        EXPECT.yes("greatest and least differ", !heap.same(15, 0));
        EXPECT.yes("they and 0 differ in upper bits alone", !heap.same(0, 1));
    }

    /** 11: "or refer to the same TUPLE" */
    private static void sameTuple() {
        SnapshotHeap heap = new SnapshotHeap();
        heap.tuple(0, 0);
        heap.tuple(1, 0);
        heap.copy(15, 0);
        EXPECT.yes("the same empty tuple", heap.same(0, 15));
        EXPECT.yes("another empty tuple", !heap.same(0, 1));
        EXPECT.yes("a tuple and itself", heap.same(1, 1));
        heap.tuple(2, 1);
        heap.set(2, 0, 2);
        heap.get(3, 2, 0);
        EXPECT.yes("a tuple from inside itself", heap.same(2, 3));
    }

    /** 11: neither the same number nor the same tuple, though value answers 0 for both */
    private static void sameIsFalseOfANumberAndAReference() {
        SnapshotHeap heap = new SnapshotHeap();
        heap.tuple(0, 0);
        for (long v = -1; v <= 3; v++) {
            heap.number(1, v);
            EXPECT.yes("a reference and " + v, !heap.same(0, 1));
            EXPECT.yes(v + " and a reference", !heap.same(1, 0));
        }
    }

    /** 11: "Thrown as by copy." */
    private static void sameRefusesWrongRoots() {
        SnapshotHeap heap = new SnapshotHeap();
        for (int no : Heaps.NO_ROOTS) {
            EXPECT.refused("same(" + no + ", 0)", IndexOutOfBoundsException.class, () -> heap.same(no, 0));
            EXPECT.refused("same(0, " + no + ")", IndexOutOfBoundsException.class, () -> heap.same(0, no));
            EXPECT.refused("same(" + no + ", " + no + ")", IndexOutOfBoundsException.class, () -> heap.same(no, no));
        }
    }

    /** 12: "What 0: TUPLES that can be reached, 1: their CELLS", of none */
    private static void countOfTheEmptyHeap() {
        SnapshotHeap heap = new SnapshotHeap();
        heap.pace(0);
        heap.tuple(0, 16);
        heap.number(0, 0);
        EXPECT.due("tuples, all of them garbage", heap.count(0), 0);
        EXPECT.due("cells, all of them garbage", heap.count(1), 0);
        heap.tuple(15, 0);
        EXPECT.due("an empty tuple", heap.count(0), 1);
        EXPECT.due("an empty tuple's cells", heap.count(1), 2);
    }

    /** 12: "What 0: TUPLES that can be reached, 1: their CELLS", of as much as there can be */
    private static void countOfTheFullHeap() {
        SnapshotHeap heap = Heaps.full();
        EXPECT.due("tuples of a full heap", heap.count(0), 67);
        EXPECT.due("cells of a full heap", heap.count(1), 1200);
        heap.copy(15, 0);
        heap.set(0, 1, 0);
        EXPECT.due("tuples that are referred to again", heap.count(0), 67);
        EXPECT.due("cells that are referred to again", heap.count(1), 1200);
    }

    /** 12: "2: TUPLES that were made", garbage too, refused ones not */
    private static void countOfTuplesMade() {
        SnapshotHeap heap = new SnapshotHeap();
        for (int made = 1; made <= 200; made++) {
            heap.tuple(0, 16);
            EXPECT.due("made", heap.count(2), made);
        }
        heap.number(0, 0);
        heap.collect();
        EXPECT.due("made, all of them collected", heap.count(2), 200);
        EXPECT.refused("tuple(0, 17)", IllegalArgumentException.class, () -> heap.tuple(0, 17));
        EXPECT.refused("tuple(16, 0)", IndexOutOfBoundsException.class, () -> heap.tuple(16, 0));
        EXPECT.due("made, two refused", heap.count(2), 200);
    }

    /** 12: "IllegalArgumentException for others." */
    private static void countRefusesOthers() {
        SnapshotHeap heap = new SnapshotHeap();
        for (int what : new int[] {-1, 3, 4, Integer.MIN_VALUE, Integer.MAX_VALUE}) {
            EXPECT.refused("count(" + what + ")", IllegalArgumentException.class, () -> heap.count(what));
        }
    }

    /** 13: "From 7 on, for each ROOT": 16 numbers 0 */
    private static void digestOfTheEmptyHeap() {
        SnapshotHeap heap = new SnapshotHeap();
        EXPECT.due("digest of a new object", heap.digest(), Heaps.hashOf(new long[16]));
        heap.tuple(0, 3);
        heap.number(0, 0);
        EXPECT.due("digest where all is garbage", heap.digest(), Heaps.hashOf(new long[16]));
    }

    /** 13: "31 times what was, and: a NUMBER it", beyond 64 bits */
    private static void digestWrapsAround() {
        for (long v : new long[] {Long.MIN_VALUE, Long.MAX_VALUE, -1}) {
            SnapshotHeap heap = new SnapshotHeap();
            long[] parts = new long[16];
            for (int r = 0; r < 16; r++) {
                parts[r] = r % 2 == 0 ? v : v - r;
                heap.number(r, parts[r]);
            }
            EXPECT.due("digest of numbers around " + v, heap.digest(), Heaps.hashOf(parts));
        }
    }

    /** 13: "of another one 3, then 31 times that and how many VALUES, then these", of none */
    private static void digestOfEmptyTuples() {
        SnapshotHeap heap = new SnapshotHeap();
        heap.tuple(0, 0);
        heap.tuple(15, 0);
        EXPECT.due("digest of two empty tuples", heap.digest(),
            Heaps.hashOf(3, 0, 0, 0, 0, 0, 0, 0, 0, 0, 0, 0, 0, 0, 0, 0, 3, 0));
    }

    /** 13: "of a TUPLE that was met before 2 and how manieth it was, the first one 1": inside itself */
    private static void digestOfATupleInItself() {
        SnapshotHeap heap = new SnapshotHeap();
        heap.tuple(0, 2);
        heap.set(0, 0, 0);
        heap.set(0, 1, 0);
        EXPECT.due("digest of a tuple in itself", heap.digest(),
            Heaps.hashOf(3, 2, 3, 3, 0, 0, 0, 0, 0, 0, 0, 0, 0, 0, 0, 0, 0, 0, 0));
    }

    /** 13: "from whichever ROOT" */
    private static void digestOfATupleMetFromAnotherRoot() {
        SnapshotHeap heap = new SnapshotHeap();
        heap.tuple(0, 0);
        heap.tuple(1, 1);
        heap.set(1, 0, 0);
        heap.copy(14, 1);
        heap.copy(15, 0);
        EXPECT.due("digest of tuples met before", heap.digest(),
            Heaps.hashOf(3, 0, 3, 1, 3, 0, 0, 0, 0, 0, 0, 0, 0, 0, 0, 0, 0, 4, 3));
    }

    /** 13: "as it is met first": the tuple that was made last is the first one if it is met first */
    private static void digestNumbersTuplesAsTheyAreMet() {
        SnapshotHeap heap = new SnapshotHeap();
        heap.tuple(2, 0);
        heap.tuple(1, 0);
        heap.tuple(0, 0);
        heap.copy(3, 0);
        heap.copy(4, 1);
        heap.copy(5, 2);
        EXPECT.due("digest of tuples made the other way round", heap.digest(),
            Heaps.hashOf(3, 0, 3, 0, 3, 0, 3, 4, 5, 0, 0, 0, 0, 0, 0, 0, 0, 0, 0));
    }

    /** 13: "then these, each with all that it refers to before the next one" */
    private static void digestGoesIntoEachValueBeforeTheNext() {
        SnapshotHeap heap = new SnapshotHeap();
        heap.tuple(0, 2);
        heap.tuple(1, 1);
        heap.tuple(2, 2);
        heap.set(0, 0, 1);
        heap.set(0, 1, 2);
        heap.number(3, 99);
        heap.set(1, 0, 2);
        heap.set(2, 1, 3);
        EXPECT.due("digest goes deep first", heap.digest(),
            Heaps.hashOf(3, 2, 3, 1, 3, 2, 0, 99, 5, 4, 5, 99, 0, 0, 0, 0, 0, 0, 0, 0, 0, 0, 0, 0));
    }

    /** 13: "each with all that it refers to": as deep as 512 calls can make it */
    private static void digestOfTheDeepestChain() {
        SnapshotHeap heap = new SnapshotHeap();
        long[] parts = new long[2 * 255 + 1 + 15];
        for (int i = 0; i < 255; i++) {
            heap.tuple(i % 2, 1);
            heap.set(i % 2, 0, 1 - i % 2);
            parts[2 * i] = 3;
            parts[2 * i + 1] = 1;
        }
        parts[2 * 255 + 1] = 2 + 2;
        EXPECT.due("digest of a chain of 255", heap.digest(), Heaps.hashOf(parts));
        EXPECT.due("tuples of a chain of 255", heap.count(0), 255);
    }

    /** 14: "Garbage is collected whole: how many TUPLES there are then", of none */
    private static void collectOfTheEmptyHeap() {
        SnapshotHeap heap = new SnapshotHeap();
        EXPECT.due("collect() of a new object", heap.collect(), 0);
        heap.tuple(0, 0);
        heap.number(0, 0);
        EXPECT.due("collect() of garbage alone", heap.collect(), 0);
        EXPECT.due("collect() again", heap.collect(), 0);
    }

    /** 14: "Garbage is collected whole: how many TUPLES there are then", of as much as there can be */
    private static void collectOfTheFullHeap() {
        SnapshotHeap heap = Heaps.full();
        long before = heap.digest();
        EXPECT.due("collect() of a full heap", heap.collect(), 67);
        EXPECT.due("collect() again", heap.collect(), 67);
        EXPECT.due("it is still full", heap.count(1), 1200);
        EXPECT.due("it is as it was", heap.digest(), before);
        heap.number(0, 0);
        EXPECT.due("collect() of what filled it", heap.collect(), 0);
    }

    /** 14: "(those that can be reached)", wherever marking and sweeping are: two links of 67 become garbage */
    private static void collectTakesGarbageOfAnOpenCycle() {
        for (int step = 1; step <= 150; step++) {
            SnapshotHeap heap = Heaps.full();
            heap.pace(0);
            heap.step(step);
            heap.get(0, 0, 9);
            heap.get(0, 0, 15);
            heap.tuple(1, 16);
            heap.tuple(1, 1);
            EXPECT.due("collect() at " + step, heap.collect(), 66);
            EXPECT.due("collect() agrees with count(0) at " + step, heap.count(0), 66);
            EXPECT.due("check() at " + step, heap.check(), 0);
        }
    }

    /** 15: "always 0": in each phase, empty, full, and after refused calls */
    private static void checkIsAlways0() {
        for (int pace : new int[] {0, 1, 3, 50}) {
            SnapshotHeap heap = Heaps.full();
            heap.pace(pace);
            EXPECT.due("check() of a full heap", heap.check(), 0);
            for (int i = 0; i < 90; i++) {
                heap.step(1 + i % 3);
                EXPECT.due("check() of a full heap, on the way", heap.check(), 0);
            }
            EXPECT.refused("tuple(1, 0)", IllegalStateException.class, () -> heap.tuple(1, 0));
            EXPECT.due("check() after a refused tuple", heap.check(), 0);
            heap.number(0, 0);
            EXPECT.due("check() of garbage alone", heap.check(), 0);
            heap.collect();
            EXPECT.due("check() of an empty heap", heap.check(), 0);
        }
        EXPECT.due("check() of a new object", new SnapshotHeap().check(), 0);
    }
}
