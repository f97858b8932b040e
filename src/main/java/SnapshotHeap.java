import java.util.Arrays;
import java.util.NoSuchElementException;

/** A heap whose garbage is marked and swept beside those who work with it. */
public final class SnapshotHeap {
    private static final int ROOTS = 16;
    private static final int WIDEST = 16;
    private static final int CELL_LIMIT = 1200;
    private static final int HEADER_CELLS = 2;
    private static final int FIRST_PACE = 3;
    private static final int HIGHEST_PACE = 50;
    private static final int LONGEST_STEP = 1000;

    /** No more tuples than this fit into the cells, so places never run out before cells do. */
    private static final int PLACES = CELL_LIMIT / HEADER_CELLS;

    /** Place 0 holds the roots, so that a root is read and written like a value of a tuple. */
    private static final int ROOT_PLACE = 0;

    /** Nothing refers to the place of the roots: its number is free to say that a value is a NUMBER. */
    private static final int NOWHERE = 0;

    private final Store store;
    private final Collector collector;
    private final Walk walk;
    private final Audit audit;
    private int pace;
    private int made;

    public SnapshotHeap() {
        store = new Store();
        collector = new Collector(store);
        walk = new Walk(store);
        audit = new Audit(store, collector, walk);
        pace = FIRST_PACE;
        made = 0;
    }

    public int tuple(int r, int n)
            throws IndexOutOfBoundsException, IllegalArgumentException, IllegalStateException {
        collector.work(pace);
        requireRoot(r);
        requireWithin(n, 0, WIDEST);
        if (!store.hasRoomFor(n)) {
            collector.collectWhole();
        }
        if (!store.hasRoomFor(n)) {
            throw new IllegalStateException("the heap is full");
        }
        store.putReference(rootSlot(r), collector.allocate(n));
        made++;
        return made;
    }

    public void number(int r, long v) throws IndexOutOfBoundsException {
        collector.work(pace);
        requireRoot(r);
        store.putNumber(rootSlot(r), v);
    }

    public void copy(int r, int s) throws IndexOutOfBoundsException {
        collector.work(pace);
        requireRoot(r);
        requireRoot(s);
        store.move(rootSlot(s), rootSlot(r));
    }

    public void get(int r, int s, int i) throws IndexOutOfBoundsException, NoSuchElementException {
        collector.work(pace);
        requireRoot(r);
        requireRoot(s);
        store.move(existingSlot(s, i), rootSlot(r));
    }

    public void set(int s, int i, int r) throws IndexOutOfBoundsException, NoSuchElementException {
        collector.work(pace);
        requireRoot(s);
        requireRoot(r);
        int slot = existingSlot(s, i);
        collector.beforeOverwrite(slot);
        store.move(rootSlot(r), slot);
    }

    public void step(int n) throws IllegalArgumentException {
        collector.work(pace);
        requireWithin(n, 1, LONGEST_STEP);
        collector.work(n);
    }

    public int pace(int n) throws IllegalArgumentException {
        collector.work(pace);
        requireWithin(n, 0, HIGHEST_PACE);
        int before = pace;
        pace = n;
        return before;
    }

    public int size(int r) throws IndexOutOfBoundsException {
        collector.work(pace);
        requireRoot(r);
        int place = store.placeAt(rootSlot(r));
        return place == NOWHERE ? -1 : store.valuesOf(place);
    }

    public long value(int r) throws IndexOutOfBoundsException {
        collector.work(pace);
        requireRoot(r);
        return store.numberAt(rootSlot(r));
    }

    public boolean same(int r, int s) throws IndexOutOfBoundsException {
        collector.work(pace);
        requireRoot(r);
        requireRoot(s);
        return store.alike(rootSlot(r), rootSlot(s));
    }

    public int count(int what) throws IllegalArgumentException {
        collector.work(pace);
        requireWithin(what, 0, 2);
        if (what == 2) {
            return made;
        }
        walk.run();
        return what == 0 ? walk.tuples() : walk.cells();
    }

    public long digest() {
        collector.work(pace);
        walk.run();
        return walk.hash();
    }

    public int collect() {
        collector.work(pace);
        collector.collectWhole();
        return store.tuples();
    }

    public int check() {
        collector.work(pace);
        return audit.faults();
    }

    private static void requireRoot(int r) {
        if (r < 0 || r >= ROOTS) {
            throw new IndexOutOfBoundsException("no such root");
        }
    }

    private static void requireWithin(int n, int least, int most) {
        if (n < least || n > most) {
            throw new IllegalArgumentException("out of range");
        }
    }

    private static int rootSlot(int r) {
        return slotOf(ROOT_PLACE, r);
    }

    private static int slotOf(int place, int i) {
        return place * WIDEST + i;
    }

    /** Where value i of the tuple stands to which root s refers. */
    private int existingSlot(int s, int i) {
        int place = store.placeAt(rootSlot(s));
        if (place == NOWHERE || i < 0 || i >= store.valuesOf(place)) {
            throw new NoSuchElementException("no such value");
        }
        return slotOf(place, i);
    }

    /**
     * The places, the values in their slots, and which places are free: those above the top, which
     * were never used, and those that were released.
     */
    static final class Store {
        private static final int FREE = -1;

        private final int[] sizes;
        private final int[] links;
        private final long[] numbers;
        private final int[] released;
        private int releasedCount;
        private int top;
        private int usedCells;

        Store() {
            sizes = new int[PLACES + 1];
            links = new int[(PLACES + 1) * WIDEST];
            numbers = new long[(PLACES + 1) * WIDEST];
            released = new int[PLACES];
            releasedCount = 0;
            top = ROOT_PLACE;
            usedCells = 0;
            Arrays.fill(sizes, FREE);
            sizes[ROOT_PLACE] = ROOTS;
        }

        boolean isTuplePlace(int place) {
            return place > ROOT_PLACE && place <= PLACES;
        }

        boolean isFree(int place) {
            return isTuplePlace(place) && sizes[place] == FREE;
        }

        int valuesOf(int place) {
            return place < 0 || place > PLACES || sizes[place] == FREE ? 0 : sizes[place];
        }

        static int cellsFor(int values) {
            return values + HEADER_CELLS;
        }

        /** The highest place that was ever used. */
        int top() {
            return top;
        }

        int tuples() {
            return top - releasedCount;
        }

        boolean hasRoomFor(int n) {
            return usedCells + cellsFor(n) <= CELL_LIMIT;
        }

        /** A place for a tuple of n numbers 0; NOWHERE if there is no room. */
        int take(int n) {
            if (n < 0 || n > WIDEST || !hasRoomFor(n)) {
                return NOWHERE;
            }
            int place = takeFreePlace();
            if (!isFree(place)) {
                return NOWHERE;
            }
            sizes[place] = n;
            usedCells += cellsFor(n);
            for (int i = 0; i < n; i++) {
                putNumber(slotOf(place, i), 0);
            }
            return place;
        }

        private int takeFreePlace() {
            if (releasedCount > 0) {
                releasedCount--;
                return released[releasedCount];
            }
            if (top < PLACES) {
                top++;
                return top;
            }
            return NOWHERE;
        }

        void release(int place) {
            if (isTuplePlace(place) && releasedCount < released.length) {
                usedCells -= cellsFor(valuesOf(place));
                sizes[place] = FREE;
                released[releasedCount] = place;
                releasedCount++;
            }
        }

        int placeAt(int slot) {
            return links[slot];
        }

        long numberAt(int slot) {
            return numbers[slot];
        }

        void putNumber(int slot, long v) {
            links[slot] = NOWHERE;
            numbers[slot] = v;
        }

        /** The number beside a reference is 0, so that two values are alike if both their parts are. */
        void putReference(int slot, int place) {
            links[slot] = place;
            numbers[slot] = 0;
        }

        void move(int from, int to) {
            links[to] = links[from];
            numbers[to] = numbers[from];
        }

        boolean alike(int slot, int other) {
            return links[slot] == links[other] && numbers[slot] == numbers[other];
        }

        /** Into holders, for each place up to the top, how often it is in use or released. */
        void countHolders(int[] holders) {
            for (int place = 1; place <= top && place < holders.length; place++) {
                holders[place] = isFree(place) ? 0 : 1;
            }
            for (int i = 0; i < releasedCount; i++) {
                if (released[i] < holders.length) {
                    holders[released[i]]++;
                }
            }
        }
    }

    /** The colours of the tuples in an open cycle, and the grey ones, which wait to be marked. */
    static final class Marking {
        private static final int WHITE = 0;
        private static final int GREY = 1;
        private static final int BLACK = 2;

        private final Store store;
        private final int[] colours;
        private final int[] waiting;
        private int waitingCount;

        Marking(Store store) {
            this.store = store;
            colours = new int[PLACES + 1];
            waiting = new int[PLACES];
            waitingCount = 0;
        }

        void reset() {
            Arrays.fill(colours, WHITE);
            waitingCount = 0;
        }

        void imitate(Marking other) {
            System.arraycopy(other.colours, 0, colours, 0, colours.length);
            System.arraycopy(other.waiting, 0, waiting, 0, waiting.length);
            waitingCount = other.waitingCount;
        }

        boolean isDone() {
            return waitingCount == 0;
        }

        boolean isWhite(int place) {
            return store.isTuplePlace(place) && colours[place] == WHITE;
        }

        boolean isGrey(int place) {
            return store.isTuplePlace(place) && colours[place] == GREY;
        }

        boolean isBlack(int place) {
            return store.isTuplePlace(place) && colours[place] == BLACK;
        }

        void whiten(int place) {
            if (store.isTuplePlace(place)) {
                colours[place] = WHITE;
            }
        }

        void blacken(int place) {
            if (store.isTuplePlace(place)) {
                colours[place] = BLACK;
            }
        }

        void shade(int place) {
            if (store.isTuplePlace(place) && colours[place] == WHITE && waitingCount < waiting.length) {
                colours[place] = GREY;
                waiting[waitingCount] = place;
                waitingCount++;
            }
        }

        void shadeValuesOf(int place) {
            int values = store.valuesOf(place);
            for (int i = 0; i < values; i++) {
                shade(store.placeAt(slotOf(place, i)));
            }
        }

        void markOne() {
            if (waitingCount > 0) {
                waitingCount--;
                int place = waiting[waitingCount];
                blacken(place);
                shadeValuesOf(place);
            }
        }
    }

    enum Phase { REST, MARKING, SWEEPING }

    /**
     * Marks, then sweeps, a unit at a time. A cycle keeps all that could be reached when it began
     * (its snapshot) and all that was made since; what became garbage since waits for the next one.
     */
    static final class Collector {
        private final Store store;
        private final Marking marking;
        private Phase phase;
        private int cursor;

        Collector(Store store) {
            this.store = store;
            marking = new Marking(store);
            phase = Phase.REST;
            cursor = 1;
        }

        Phase phase() {
            return phase;
        }

        Marking marking() {
            return marking;
        }

        void work(int units) {
            for (int done = 0; done < units; done++) {
                advance();
            }
        }

        /** An open cycle is dropped first, since its snapshot may hold what is garbage by now. */
        void collectWhole() {
            marking.reset();
            begin();
            for (int done = 0; done < 2 * PLACES && phase != Phase.REST; done++) {
                advance();
            }
        }

        /** A place for a new tuple, which an open cycle must keep; NOWHERE if there is no room. */
        int allocate(int n) {
            int place = store.take(n);
            if (phase == Phase.MARKING || isYetToBeSwept(place)) {
                marking.blacken(place);
            }
            return place;
        }

        /**
         * The reference that a tuple loses was in the snapshot, but marking may not have come by yet.
         * Roots need no such care: the snapshot took them all at once.
         */
        void beforeOverwrite(int slot) {
            if (phase == Phase.MARKING) {
                marking.shade(store.placeAt(slot));
            }
        }

        boolean isYetToBeSwept(int place) {
            return phase == Phase.SWEEPING && place >= cursor;
        }

        private void advance() {
            if (phase == Phase.REST) {
                begin();
            }
            if (phase == Phase.MARKING && marking.isDone()) {
                phase = Phase.SWEEPING;
                cursor = 1;
            }
            if (phase == Phase.MARKING) {
                marking.markOne();
            } else {
                sweepOne();
            }
        }

        private void begin() {
            phase = Phase.MARKING;
            marking.shadeValuesOf(ROOT_PLACE);
        }

        private void sweepOne() {
            if (marking.isBlack(cursor)) {
                marking.whiten(cursor);
            } else if (!store.isFree(cursor)) {
                store.release(cursor);
            }
            cursor++;
            if (cursor > store.top()) {
                phase = Phase.REST;
            }
        }
    }

    /** Meets all that can be reached from the roots, each tuple once, depth first. */
    static final class Walk {
        private static final long HASH_START = 7;
        private static final long HASH_FACTOR = 31;
        private static final long MET_BEFORE = 2;
        private static final long MET_FIRST = 3;
        private static final int MOST_TURNS = (PLACES + 1) * (WIDEST + 1);

        private final Store store;
        private final int[] metAs;
        private final int[] path;
        private final int[] nextValue;
        private int depth;
        private int met;
        private int metCells;
        private long hash;

        Walk(Store store) {
            this.store = store;
            metAs = new int[PLACES + 1];
            path = new int[PLACES + 1];
            nextValue = new int[PLACES + 1];
        }

        int tuples() {
            return met;
        }

        int cells() {
            return metCells;
        }

        long hash() {
            return hash;
        }

        boolean hasMet(int place) {
            return store.isTuplePlace(place) && metAs[place] > 0;
        }

        void run() {
            Arrays.fill(metAs, 0);
            met = 0;
            metCells = 0;
            hash = HASH_START;
            depth = 0;
            goInto(ROOT_PLACE);
            for (int turn = 0; turn < MOST_TURNS && depth > 0; turn++) {
                goOn();
            }
        }

        private void goOn() {
            int place = path[depth - 1];
            int i = nextValue[depth - 1];
            if (i < store.valuesOf(place)) {
                nextValue[depth - 1] = i + 1;
                meet(slotOf(place, i));
            } else {
                depth--;
            }
        }

        private void meet(int slot) {
            int place = store.placeAt(slot);
            if (!store.isTuplePlace(place)) {
                mix(store.numberAt(slot));
            } else if (hasMet(place)) {
                mix(MET_BEFORE + metAs[place]);
            } else {
                meetFirst(place);
            }
        }

        private void meetFirst(int place) {
            int values = store.valuesOf(place);
            met++;
            metAs[place] = met;
            metCells += Store.cellsFor(values);
            mix(MET_FIRST);
            mix(values);
            goInto(place);
        }

        private void goInto(int place) {
            if (depth < path.length) {
                path[depth] = place;
                nextValue[depth] = 0;
                depth++;
            }
        }

        private void mix(long part) {
            hash = HASH_FACTOR * hash + part;
        }
    }

    /** Counts what is wrong in the heap. */
    static final class Audit {
        private final Store store;
        private final Collector collector;
        private final Walk walk;
        private final Marking trial;
        private final int[] holders;

        Audit(Store store, Collector collector, Walk walk) {
            this.store = store;
            this.collector = collector;
            this.walk = walk;
            trial = new Marking(store);
            holders = new int[PLACES + 1];
        }

        int faults() {
            walk.run();
            store.countHolders(holders);
            markToTheEnd();
            int faults = 0;
            int top = store.top();
            for (int place = 1; place <= top && place < holders.length; place++) {
                faults += walk.hasMet(place) && store.isFree(place) ? 1 : 0;
                faults += holders[place] == 1 ? 0 : 1;
                faults += isMarkWrong(place) ? 1 : 0;
            }
            return faults;
        }

        /** On a copy: a white tuple is no fault as long as marking would still come to it. */
        private void markToTheEnd() {
            trial.imitate(collector.marking());
            boolean goesOn = collector.phase() == Phase.MARKING;
            for (int done = 0; goesOn && done < PLACES && !trial.isDone(); done++) {
                trial.markOne();
            }
        }

        private boolean isMarkWrong(int place) {
            if (store.isFree(place) || !isMarkInUse(place)) {
                return !collector.marking().isWhite(place);
            }
            return trial.isGrey(place) || walk.hasMet(place) && !trial.isBlack(place);
        }

        private boolean isMarkInUse(int place) {
            return collector.phase() == Phase.MARKING || collector.isYetToBeSwept(place);
        }
    }
}
