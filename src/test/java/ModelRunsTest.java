import java.util.function.LongSupplier;

/** Long runs of calls, drawn by a fixed rule, with the answers of PlainHeap due for each. */
public final class ModelRunsTest {
    private static final int MOST_CALLS = 512;
    private static final Expect EXPECT = new Expect();

    private final int run;
    private final SnapshotHeap heap = new SnapshotHeap();
    private final PlainHeap plain = new PlainHeap();
    private final int roots;
    private final int widest;
    private final boolean wrongArguments;
    private final boolean auditEach;
    private final boolean growing;
    private long seed;
    private int calls;

    private ModelRunsTest(int run) {
        this.run = run;
        seed = run * 7919L + 1;
        roots = 2 + below(15);
        widest = run % 3 == 0 ? 3 : 17;
        wrongArguments = run % 4 == 0;
        auditEach = run % 2 == 0;
        growing = run % 5 == 0;
    }

    public static void main(String[] args) {
        for (int run = 1; run <= 1500; run++) {
            new ModelRunsTest(run).play();
        }
        EXPECT.end();
    }

    private void play() {
        int pace = below(4) == 0 ? below(51) : below(4);
        compare("pace(" + pace + ")", () -> heap.pace(pace), () -> plain.pace(pace));
        while (calls < MOST_CALLS - 6) {
            playOne();
            if (auditEach) {
                compare("check()", heap::check, plain::check);
            }
        }
        compare("digest()", heap::digest, plain::digest);
    }

    private void playOne() {
        if (growing && below(3) > 0) {
            playTuple(root());
            return;
        }
        int r = root();
        int s = root();
        int i = below(widest + 1) - (below(20) == 0 ? 1 : 0);
        switch (below(20)) {
            case 0, 1, 2, 3, 4, 5 -> playTuple(r);
            case 6 -> playGet(r, s, i);
            case 7, 8 -> playTakeOut(r, s, below(3));
            case 9, 10, 11, 12 -> playSet(s, i, r);
            case 13 -> playCopy(r, s);
            case 14 -> playNumber(r);
            default -> playQuestion(r, s);
        }
    }

    private void playTuple(int r) {
        if (growing) {
            playCopy(15, r);
        }
        int n = below(widest) + (wrongArguments && below(20) == 0 ? 17 : 0);
        compare("tuple(" + r + ", " + n + ")", () -> heap.tuple(r, n), () -> plain.tuple(r, n));
        if (growing) {
            playSet(r, below(2), 15);
        }
    }

    private void playCopy(int r, int s) {
        compare("copy(" + r + ", " + s + ")", quiet(() -> heap.copy(r, s)), quiet(() -> plain.copy(r, s)));
    }

    private void playGet(int r, int s, int i) {
        compare("get(" + r + ", " + s + ", " + i + ")", quiet(() -> heap.get(r, s, i)), quiet(() -> plain.get(r, s, i)));
    }

    /** Hides a value from marking, which may not have come to the tuple yet. */
    private void playTakeOut(int r, int s, int i) {
        playGet(r, s, i);
        playSet(s, i, root());
    }

    private void playSet(int s, int i, int r) {
        compare("set(" + s + ", " + i + ", " + r + ")", quiet(() -> heap.set(s, i, r)), quiet(() -> plain.set(s, i, r)));
    }

    private void playNumber(int r) {
        long v = below(2) == 0 ? below(4) : draw();
        compare("number(" + r + ", " + v + ")", quiet(() -> heap.number(r, v)), quiet(() -> plain.number(r, v)));
    }

    private void playQuestion(int r, int s) {
        int n = below(8) == 0 ? below(1003) - 1 : below(12);
        int what = below(wrongArguments ? 5 : 3) - (wrongArguments ? 1 : 0);
        switch (below(9)) {
            case 0 -> compare("step(" + n + ")", quiet(() -> heap.step(n)), quiet(() -> plain.step(n)));
            case 1 -> playPace();
            case 2 -> compare("size(" + r + ")", () -> heap.size(r), () -> plain.size(r));
            case 3 -> compare("value(" + r + ")", () -> heap.value(r), () -> plain.value(r));
            case 4 -> compare("same(" + r + ", " + s + ")", () -> heap.same(r, s) ? 1 : 0, () -> plain.same(r, s) ? 1 : 0);
            case 5 -> compare("count(" + what + ")", () -> heap.count(what), () -> plain.count(what));
            case 6 -> compare("digest()", heap::digest, plain::digest);
            case 7 -> playCollect();
            default -> compare("check()", heap::check, plain::check);
        }
    }

    private void playPace() {
        int n = wrongArguments ? below(53) - 1 : below(5);
        compare("pace(" + n + ")", () -> heap.pace(n), () -> plain.pace(n));
    }

    /** Seldom: cycles that come to their end by themselves are to be seen as well. */
    private void playCollect() {
        if (below(4) == 0) {
            compare("collect()", heap::collect, plain::collect);
        } else {
            compare("count(1)", () -> heap.count(1), () -> plain.count(1));
        }
    }

    private static LongSupplier quiet(Runnable call) {
        return () -> {
            call.run();
            return 0;
        };
    }

    private void compare(String call, LongSupplier got, LongSupplier want) {
        calls++;
        String answer = answer(got);
        String due = answer(want);
        if (!answer.equals(due)) {
            EXPECT.tell("run " + run + ": " + call + " answered " + answer + ", due is " + due);
        }
    }

    private static String answer(LongSupplier call) {
        try {
            return Long.toString(call.getAsLong());
        } catch (RuntimeException e) {
            return e.getClass().getName();
        }
    }

    private int root() {
        return wrongArguments && below(30) == 0 ? (below(2) == 0 ? -1 : 16) : below(roots);
    }

    private int below(int bound) {
        return (int) Long.remainderUnsigned(draw() >>> 20, bound);
    }

    private long draw() {
        seed = seed * 6364136223846793005L + 1442695040888963407L;
        return seed ^ seed >>> 29;
    }
}
