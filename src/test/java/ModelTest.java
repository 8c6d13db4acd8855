import java.util.Arrays;

/**
 * Long runs of mixed calls, each answer compared with that of a plain model.
 * The calls come from a fixed sequence, so that every run of the test makes
 * the same ones.
 */
public final class ModelTest {
    private static final int RUNS = 4000;
    /** With frames() before them, the last call of such a run is the object's 512th. */
    private static final int MOST_CALLS = 511;
    /** With the 192 calls that look at the pages at the end, a run stays below 512. */
    private static final int CALLS_BEFORE_A_LOOK = 300;
    private static final int[] EXTREMES = {Integer.MIN_VALUE, Integer.MIN_VALUE + 1, -64, -33, -32, -2, -1, 0, 1, 2, 31, 32,
        33, 63, 64, 65, Integer.MAX_VALUE - 1, Integer.MAX_VALUE};

    private static long sequence = 20261115L;

    public static void main(String[] args) {
        for (int run = 0; run < RUNS; run++) {
            int frames = run % 10 == 0 ? pick(EXTREMES) : below(60);
            String told = "run " + run + " of " + frames + " frames: ";
            PageRangeStore store = new PageRangeStore(frames);
            Model model = new Model(frames);
            Checks.due(told + "frames()", store.frames(), model.frames);
            if (run % 2 == 0) {
                calls(told, store, model, MOST_CALLS);
            } else {
                calls(told, store, model, CALLS_BEFORE_A_LOOK);
                look(told, store, model);
            }
        }
        Checks.finish();
    }

    private static void calls(String told, PageRangeStore store, Model model, int count) {
        for (int call = 0; call < count; call++) {
            oneCall(told + "call " + call + " ", store, model);
        }
    }

    private static void look(String told, PageRangeStore store, Model model) {
        Checks.due(told + "used()", store.used(), model.used());
        Checks.holds(told + "the pages are as in the model", Arrays.equals(Checks.pagesOf(store), model.pages()));
    }

    private static void oneCall(String told, PageRangeStore s, Model m) {
        int a = space();
        int p = page();
        int c = count();
        int v = value();
        String args = "(" + a + ", " + p + ", " + c + ", " + v + ")";
        switch (below(18)) {
            case 0 -> Checks.due(told + "used", s.used(), m.used());
            case 1 -> Checks.due(told + "mappedIn" + args, s.mappedIn(a), m.mappedIn(a));
            case 2, 3 -> Checks.due(told + "map" + args, s.map(a, p, c), m.map(a, p, c));
            case 4 -> Checks.due(told + "unmap" + args, s.unmap(a, p, c), m.unmap(a, p, c));
            case 5 -> {
                int flag = below(2) == 0 ? 0 : v;
                Checks.due(told + "protect" + args + " " + flag, s.protect(a, p, c, flag), m.protect(a, p, c, flag));
            }
            case 6 -> Checks.due(told + "mapped" + args, s.mapped(a, p), m.mapped(a, p));
            case 7 -> Checks.due(told + "writable" + args, s.writable(a, p), m.writable(a, p));
            case 8 -> Checks.due(told + "read" + args, s.read(a, p), m.read(a, p));
            case 9 -> Checks.due(told + "write" + args, s.write(a, p, v), m.write(a, p, v));
            case 10, 11 -> Checks.due(told + "touch" + args, s.touch(a, p, v), m.touch(a, p, v));
            case 12 -> {
                int range = below(10) == 0 ? v : 64 * p + c;
                Checks.due(told + "stamp" + args + " " + range, s.stamp(a, range, v), m.stamp(a, range, v));
            }
            case 13 -> {
                int to = page();
                Checks.due(told + "remap" + args + " " + to, s.remap(a, p, to), m.remap(a, p, to));
            }
            case 14 -> Checks.due(told + "duplicate" + args, s.duplicate(a, p), m.duplicate(a, p));
            case 15 -> Checks.due(told + "exchange" + args, s.exchange(p), m.exchange(p));
            case 16 -> Checks.due(told + "sum" + args, s.sum(a), m.sum(a));
            default -> Checks.due(told + "nextMapped" + args, s.nextMapped(a, p), m.nextMapped(a, p));
        }
    }

    private static int space() {
        return below(25) == 0 ? pick(EXTREMES) : below(2);
    }

    private static int page() {
        return below(20) == 0 ? pick(EXTREMES) : below(32);
    }

    private static int count() {
        if (below(20) == 0) {
            return pick(EXTREMES);
        }
        return below(4) == 0 ? 1 + below(32) : 1 + below(5);
    }

    private static int value() {
        return below(4) == 0 ? pick(EXTREMES) : (int) next();
    }

    private static int pick(int[] values) {
        return values[below(values.length)];
    }

    private static int below(int bound) {
        return (int) Long.remainderUnsigned(next(), bound);
    }

    /** A linear congruential step; its high bits alone are mixed enough to use. */
    private static long next() {
        sequence = sequence * 6364136223846793005L + 1442695040888963407L;
        return sequence >>> 32;
    }
}
