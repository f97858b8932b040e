import java.util.List;
import java.util.NoSuchElementException;
import java.util.function.Consumer;

/** One test for each sentence of 'What it is' and 'Terms' that names an edge. */
public final class TermsEdgesTest {
    private static final Expect EXPECT = new Expect();

    public static void main(String[] args) {
        theLastOf512CallsAnswers();
        numbersHave64Bits();
        tuplesHave0To16Values();
        rootsAre0To15();
        rootsAreTheNumber0AtFirst();
        reachedByTheLastRootAndTheLastValue();
        ringsOfGarbageAreGarbage();
        tuplesHaveTwoCellsBesideTheirValues();
        workBesideTheCallsTellsNothing();
        firstExceptionOfTuple();
        firstExceptionOfGetAndSet();
        whatThrowsChangesNothing();
        EXPECT.end();
    }

    /** "An object is used for at most 512 calls after it has been made" */
    private static void theLastOf512CallsAnswers() {
        for (int pace : new int[] {0, 1, 3, 50}) {
            EXPECT.due("call 512: tuple", after511Calls(pace).tuple(0, 16), 511);
            EXPECT.due("call 512: count(0)", after511Calls(pace).count(0), 16);
            EXPECT.due("call 512: count(1)", after511Calls(pace).count(1), 16 * 18);
            EXPECT.due("call 512: count(2)", after511Calls(pace).count(2), 510);
            EXPECT.due("call 512: pace", after511Calls(pace).pace(1), pace);
            EXPECT.due("call 512: size", after511Calls(pace).size(15), 16);
            EXPECT.due("call 512: collect", after511Calls(pace).collect(), 16);
            EXPECT.due("call 512: check", after511Calls(pace).check(), 0);
            SnapshotHeap heap = after511Calls(pace);
            EXPECT.refused("call 512: tuple(0, 17)", IllegalArgumentException.class, () -> heap.tuple(0, 17));
        }
    }

    private static SnapshotHeap after511Calls(int pace) {
        SnapshotHeap heap = new SnapshotHeap();
        heap.pace(pace);
        for (int i = 0; i < 510; i++) {
            heap.tuple(i % 16, 16);
        }
        return heap;
    }

    /** "VALUES are NUMBERS (of 64 bits)" */
    private static void numbersHave64Bits() {
        for (long v : new long[] {Long.MIN_VALUE, Long.MAX_VALUE, 1L << 32, (1L << 32) + 1, -1}) {
            SnapshotHeap heap = new SnapshotHeap();
            heap.tuple(0, 1);
            heap.number(1, v);
            heap.set(0, 0, 1);
            heap.get(2, 0, 0);
            EXPECT.due("64 bits through a tuple", heap.value(2), v);
            heap.number(3, (int) v);
            EXPECT.yes("32 bits of " + v, heap.same(2, 3) == ((int) v == v));
        }
    }

    /** "each to a TUPLE of 0 to 16 VALUES" */
    private static void tuplesHave0To16Values() {
        SnapshotHeap heap = new SnapshotHeap();
        heap.tuple(0, 0);
        heap.tuple(1, 16);
        EXPECT.due("the smallest tuple", heap.size(0), 0);
        EXPECT.due("the widest tuple", heap.size(1), 16);
        for (int i = 0; i < 16; i++) {
            heap.number(2, 100 + i);
            heap.set(1, i, 2);
        }
        for (int i = 0; i < 16; i++) {
            heap.get(2, 1, i);
            EXPECT.due("value " + i + " of 16", heap.value(2), 100 + i);
        }
    }

    /** "ROOTS 0 to 15 are VALUES" */
    private static void rootsAre0To15() {
        SnapshotHeap heap = new SnapshotHeap();
        for (int r = 0; r < 16; r++) {
            heap.number(r, 1000 + r);
        }
        for (int r = 0; r < 16; r++) {
            EXPECT.due("root " + r + " is a value of its own", heap.value(r), 1000 + r);
        }
        for (int r = 0; r < 16; r++) {
            heap.tuple(r, r);
        }
        for (int r = 0; r < 16; r++) {
            EXPECT.due("root " + r + " is a reference of its own", heap.size(r), r);
        }
    }

    /** "the NUMBER 0 at first" */
    private static void rootsAreTheNumber0AtFirst() {
        SnapshotHeap heap = new SnapshotHeap();
        heap.number(0, 0);
        for (int r = 1; r < 16; r++) {
            EXPECT.yes("root " + r + " is the number 0 at first", heap.same(0, r));
            EXPECT.due("root " + r + " is no reference at first", heap.size(r), -1);
        }
    }

    /** "A TUPLE can be reached if a ROOT, or a VALUE of one that can be reached, refers to it" */
    private static void reachedByTheLastRootAndTheLastValue() {
        for (int last : new int[] {0, 15}) {
            SnapshotHeap heap = new SnapshotHeap();
            heap.tuple(last, 16);
            heap.tuple(7, 16);
            heap.tuple(8, 1);
            heap.set(7, last, 8);
            heap.set(last, last, 7);
            heap.number(7, 0);
            heap.number(8, 0);
            heap.step(1000);
            EXPECT.due("reached by root and value " + last, heap.count(0), 3);
            EXPECT.due("kept by root and value " + last, heap.collect(), 3);
            heap.get(7, last, last);
            heap.get(8, 7, last);
            EXPECT.due("there by root and value " + last, heap.size(8), 1);
        }
    }

    /** "others are garbage" */
    private static void ringsOfGarbageAreGarbage() {
        SnapshotHeap heap = new SnapshotHeap();
        heap.tuple(0, 1);
        heap.set(0, 0, 0);
        heap.tuple(1, 2);
        heap.tuple(2, 2);
        heap.set(1, 1, 2);
        heap.set(2, 1, 1);
        EXPECT.due("a tuple in itself, and two in one another", heap.count(0), 3);
        heap.number(0, 0);
        EXPECT.due("a tuple in itself alone", heap.count(0), 2);
        heap.number(1, 0);
        EXPECT.due("one root holds a ring", heap.count(0), 2);
        heap.number(2, 0);
        EXPECT.due("no root holds the ring", heap.count(0), 0);
        EXPECT.due("cells of garbage", heap.count(1), 0);
        EXPECT.due("rings are collected", heap.collect(), 0);
    }

    /** "A TUPLE of n VALUES has n and 2 CELLS" */
    private static void tuplesHaveTwoCellsBesideTheirValues() {
        for (int n = 0; n <= 16; n++) {
            SnapshotHeap heap = new SnapshotHeap();
            heap.tuple(0, n);
            EXPECT.due("cells of a tuple of " + n, heap.count(1), n + 2);
        }
    }

    /** "Marking and sweeping go on a little with each call, and by step; nothing that is told is otherwise" */
    private static void workBesideTheCallsTellsNothing() {
        String due = toldByRun(0, 0);
        for (int pace : new int[] {0, 1, 2, 3, 7, 49, 50}) {
            for (int step : new int[] {0, 1, 2, 5, 999, 1000}) {
                String got = toldByRun(pace, step);
                EXPECT.yes("pace " + pace + ", step " + step + ": " + got + ", due is " + due, got.equals(due));
            }
        }
    }

    /** In each round a tuple is held by a value alone, and taken out of it: marking may not find it there. */
    private static String toldByRun(int pace, int step) {
        SnapshotHeap heap = new SnapshotHeap();
        heap.pace(pace);
        StringBuilder told = new StringBuilder();
        for (int r = 0; r < 5; r++) {
            told.append(heap.tuple(r, 3)).append(' ');
        }
        for (int round = 0; round < 30; round++) {
            int holder = round % 5;
            told.append(heap.tuple(5, 1)).append(' ');
            heap.set(holder, 0, 5);
            heap.number(5, round);
            stepIfAny(heap, step);
            heap.get(6, holder, 0);
            heap.set(holder, 0, 5);
            stepIfAny(heap, step);
            told.append(heap.tuple((round + 2) % 5, 3)).append(' ');
            heap.set((round + 2) % 5, 1, (round + 4) % 5);
            told.append(heap.count(0)).append(' ').append(heap.count(1)).append(' ');
            told.append(heap.size(6)).append(' ').append(heap.same(0, 6)).append(' ');
            told.append(heap.digest()).append(' ').append(heap.check()).append(' ');
        }
        return told.append(heap.collect()).toString();
    }

    private static void stepIfAny(SnapshotHeap heap, int step) {
        if (step > 0) {
            heap.step(step);
        }
    }

    /** "Where a heading names several exceptions, the first of them that fits is thrown": tuple */
    private static void firstExceptionOfTuple() {
        SnapshotHeap heap = Heaps.full();
        for (int r : Heaps.NO_ROOTS) {
            for (int n : new int[] {-1, 0, 16, 17}) {
                EXPECT.refused("full, tuple(" + r + ", " + n + ")", IndexOutOfBoundsException.class, () -> heap.tuple(r, n));
            }
        }
        for (int n : new int[] {-1, 17, Integer.MIN_VALUE, Integer.MAX_VALUE}) {
            EXPECT.refused("full, tuple(0, " + n + ")", IllegalArgumentException.class, () -> heap.tuple(0, n));
        }
        EXPECT.refused("full, tuple(0, 0)", IllegalStateException.class, () -> heap.tuple(0, 0));
        EXPECT.refused("full, tuple(15, 16)", IllegalStateException.class, () -> heap.tuple(15, 16));
    }

    /** "Where a heading names several exceptions, the first of them that fits is thrown": get, set */
    private static void firstExceptionOfGetAndSet() {
        SnapshotHeap heap = new SnapshotHeap();
        heap.tuple(0, 2);
        for (int no : Heaps.NO_ROOTS) {
            for (int i : new int[] {-1, 0, 2}) {
                EXPECT.refused("get(" + no + ", 0, i)", IndexOutOfBoundsException.class, () -> heap.get(no, 0, i));
                EXPECT.refused("get(" + no + ", 1, i)", IndexOutOfBoundsException.class, () -> heap.get(no, 1, i));
                EXPECT.refused("get(0, " + no + ", i)", IndexOutOfBoundsException.class, () -> heap.get(0, no, i));
                EXPECT.refused("set(0, i, " + no + ")", IndexOutOfBoundsException.class, () -> heap.set(0, i, no));
                EXPECT.refused("set(1, i, " + no + ")", IndexOutOfBoundsException.class, () -> heap.set(1, i, no));
                EXPECT.refused("set(" + no + ", i, 0)", IndexOutOfBoundsException.class, () -> heap.set(no, i, 0));
            }
        }
        EXPECT.refused("get(0, 1, 2)", NoSuchElementException.class, () -> heap.get(0, 1, 2));
        EXPECT.refused("set(1, 2, 0)", NoSuchElementException.class, () -> heap.set(1, 2, 0));
    }

    /** "what throws changes nothing that is told" */
    private static void whatThrowsChangesNothing() {
        List<Consumer<SnapshotHeap>> refused = List.of(
            h -> h.tuple(-1, 1), h -> h.tuple(16, 1), h -> h.tuple(0, -1), h -> h.tuple(0, 17),
            h -> h.tuple(0, 0), h -> h.tuple(1, 0), h -> h.tuple(2, 16),
            h -> h.number(-1, 5), h -> h.number(16, 5),
            h -> h.copy(-1, 0), h -> h.copy(16, 0), h -> h.copy(1, -1), h -> h.copy(1, 16),
            h -> h.get(-1, 0, 0), h -> h.get(16, 0, 0), h -> h.get(1, -1, 0), h -> h.get(1, 16, 0),
            h -> h.get(1, 2, 0), h -> h.get(1, 0, -1), h -> h.get(1, 0, 16),
            h -> h.set(-1, 0, 1), h -> h.set(16, 0, 1), h -> h.set(0, 0, -1), h -> h.set(0, 0, 16),
            h -> h.set(2, 0, 1), h -> h.set(0, -1, 1), h -> h.set(0, 16, 1),
            h -> h.step(0), h -> h.step(1001), h -> h.pace(-1), h -> h.pace(51),
            h -> h.size(-1), h -> h.size(16), h -> h.value(-1), h -> h.value(16),
            h -> h.same(-1, 0), h -> h.same(16, 0), h -> h.same(0, -1), h -> h.same(0, 16),
            h -> h.count(-1), h -> h.count(3));
        for (int call = 0; call < refused.size(); call++) {
            for (int step : new int[] {1, 30, 70, 100, 1000}) {
                changesNothing("refused call " + call + " after step " + step, step, refused.get(call));
            }
        }
    }

    private static void changesNothing(String call, int step, Consumer<SnapshotHeap> body) {
        String due = Heaps.told(fullAfterStep(step));
        SnapshotHeap heap = fullAfterStep(step);
        try {
            body.accept(heap);
            EXPECT.tell(call + " was not refused");
        } catch (RuntimeException e) {
            String got = Heaps.told(heap);
            EXPECT.yes(call + " left " + got + ", due is " + due, got.equals(due));
        }
    }

    private static SnapshotHeap fullAfterStep(int step) {
        SnapshotHeap heap = Heaps.full();
        heap.pace(0);
        heap.copy(3, 0);
        heap.number(1, 8);
        heap.number(2, -9);
        heap.step(step);
        return heap;
    }
}
