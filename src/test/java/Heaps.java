/** Heaps in the states that the document's edges are about. */
final class Heaps {
    /** None of these is a root; the extreme ones tell a sum that wraps around. */
    static final int[] NO_ROOTS = {-1, 16, Integer.MIN_VALUE, Integer.MAX_VALUE};
    static final int MOST_CELLS = 1200;

    /** Lends a root while a chain is made; it is the number 0 afterwards. */
    private static final int LENT_ROOT = 14;

    private Heaps() {
    }

    /** What can be reached has just so many cells, in a chain on root r; at least 3, or none. */
    static SnapshotHeap withCells(int r, int cells) {
        SnapshotHeap heap = new SnapshotHeap();
        int left = cells;
        while (left > 0) {
            int taken = cellsOfNextLink(left);
            heap.tuple(LENT_ROOT, taken - 2);
            heap.set(LENT_ROOT, taken - 3, r);
            heap.copy(r, LENT_ROOT);
            left -= taken;
        }
        heap.number(LENT_ROOT, 0);
        return heap;
    }

    static SnapshotHeap full() {
        return withCells(0, MOST_CELLS);
    }

    /** A link of a chain has 3 cells at least, so 1 or 2 must not be left. */
    private static int cellsOfNextLink(int left) {
        if (left <= 18) {
            return left;
        }
        return left - 18 == 1 || left - 18 == 2 ? 16 : 18;
    }

    /** All that a heap tells of its state, in 40 calls. */
    static String told(SnapshotHeap heap) {
        StringBuilder told = new StringBuilder();
        for (int r = 0; r < 16; r++) {
            told.append(heap.size(r)).append(':').append(heap.value(r)).append(' ');
        }
        for (int what = 0; what <= 2; what++) {
            told.append("count ").append(heap.count(what)).append(' ');
        }
        int pace = heap.pace(0);
        heap.pace(pace);
        told.append("pace ").append(pace);
        told.append(" digest ").append(heap.digest());
        told.append(" collect ").append(heap.collect());
        told.append(" check ").append(heap.check());
        return told.toString();
    }

    /** What digest is due if these are met, one after the other. */
    static long hashOf(long... parts) {
        long hash = 7;
        for (long part : parts) {
            hash = 31 * hash + part;
        }
        return hash;
    }
}
