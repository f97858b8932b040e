import java.util.IdentityHashMap;
import java.util.Map;
import java.util.NoSuchElementException;

/** The document in its plainest form, with Java's own objects: what SnapshotHeap is compared with. */
final class PlainHeap {
    private final Object[] roots = new Object[16];
    private int made;
    private int pace = 3;

    PlainHeap() {
        java.util.Arrays.fill(roots, 0L);
    }

    int tuple(int r, int n) {
        root(r);
        range(n, 0, 16);
        if (count(1) + n + 2 > 1200) {
            throw new IllegalStateException();
        }
        Object[] values = new Object[n];
        java.util.Arrays.fill(values, 0L);
        roots[r] = values;
        return ++made;
    }

    void number(int r, long v) {
        root(r);
        roots[r] = v;
    }

    void copy(int r, int s) {
        root(r);
        root(s);
        roots[r] = roots[s];
    }

    void get(int r, int s, int i) {
        root(r);
        root(s);
        roots[r] = values(s, i)[i];
    }

    void set(int s, int i, int r) {
        root(s);
        root(r);
        values(s, i)[i] = roots[r];
    }

    void step(int n) {
        range(n, 1, 1000);
    }

    int pace(int n) {
        range(n, 0, 50);
        int before = pace;
        pace = n;
        return before;
    }

    int size(int r) {
        root(r);
        return roots[r] instanceof Object[] values ? values.length : -1;
    }

    long value(int r) {
        root(r);
        return roots[r] instanceof Long number ? number : 0;
    }

    boolean same(int r, int s) {
        root(r);
        root(s);
        return roots[r] == roots[s] || roots[r] instanceof Long number && number.equals(roots[s]);
    }

    int count(int what) {
        range(what, 0, 2);
        if (what == 2) {
            return made;
        }
        Map<Object, Integer> met = new IdentityHashMap<>();
        hashAll(met);
        return what == 0 ? met.size() : met.keySet().stream().mapToInt(t -> ((Object[]) t).length + 2).sum();
    }

    long digest() {
        return hashAll(new IdentityHashMap<>());
    }

    int collect() {
        return count(0);
    }

    int check() {
        return 0;
    }

    private long hashAll(Map<Object, Integer> met) {
        long hash = 7;
        for (Object root : roots) {
            hash = hashOne(hash, root, met);
        }
        return hash;
    }

    private static long hashOne(long before, Object value, Map<Object, Integer> met) {
        if (value instanceof Long number) {
            return 31 * before + number;
        }
        Integer metAs = met.get(value);
        if (metAs != null) {
            return 31 * before + 2 + metAs;
        }
        met.put(value, met.size() + 1);
        Object[] values = (Object[]) value;
        long hash = 31 * (31 * before + 3) + values.length;
        for (Object inner : values) {
            hash = hashOne(hash, inner, met);
        }
        return hash;
    }

    private Object[] values(int s, int i) {
        if (!(roots[s] instanceof Object[] values) || i < 0 || i >= values.length) {
            throw new NoSuchElementException();
        }
        return values;
    }

    private static void root(int r) {
        if (r < 0 || r > 15) {
            throw new IndexOutOfBoundsException();
        }
    }

    private static void range(int n, int least, int most) {
        if (n < least || n > most) {
            throw new IllegalArgumentException();
        }
    }
}
