import java.util.Arrays;
import java.util.List;
import java.util.SortedMap;
import java.util.TreeMap;

/**
 * Long runs of mixed calls, each answer compared with that of a plain model
 * that holds a map of pages for each space. The calls come from a fixed
 * sequence, so that every run of the test makes the same ones.
 */
public final class ModelTest {
    private static final int RUNS = 4000;
    /** With the 192 calls that look at the pages at the end, a run stays below 512. */
    private static final int CALLS = 300;
    private static final int[] EXTREMES = {Integer.MIN_VALUE, Integer.MIN_VALUE + 1, -64, -33, -32, -2, -1, 0, 1, 2, 31, 32,
        33, 63, 64, 65, Integer.MAX_VALUE - 1, Integer.MAX_VALUE};

    private static long sequence = 20261115L;

    private record Cell(int content, boolean writable) {
    }

    private static final class Model {
        final int frames;
        final List<SortedMap<Integer, Cell>> spaces = List.of(new TreeMap<>(), new TreeMap<>());

        Model(int frames) {
            int limit = Math.max(8, Math.min(48, frames));
            this.frames = limit / 8 * 8;
        }

        int used() {
            return spaces.get(0).size() + spaces.get(1).size();
        }

        static boolean badSpace(int space) {
            return space < 0 || space > 1;
        }

        static boolean badPage(int page) {
            return page < 0 || page > 31;
        }

        static boolean badRange(long page, long count) {
            return count < 1 || count > 32 || page < 0 || page + count > 32;
        }

        int mappedIn(int space) {
            return badSpace(space) ? -1 : spaces.get(space).size();
        }

        int map(int space, int page, int count) {
            if (badSpace(space)) return -1;
            if (badRange(page, count)) return -2;
            SortedMap<Integer, Cell> then = new TreeMap<>(spaces.get(space));
            for (int at = page; at < page + count; at++) then.putIfAbsent(at, new Cell(0, true));
            int fresh = then.size() - spaces.get(space).size();
            if (used() + fresh > frames) return -3;
            spaces.get(space).putAll(then);
            return fresh;
        }

        int unmap(int space, int page, int count) {
            if (badSpace(space)) return -1;
            if (badRange(page, count)) return -2;
            SortedMap<Integer, Cell> range = spaces.get(space).subMap(page, page + count);
            int taken = range.size();
            range.clear();
            return taken;
        }

        int protect(int space, int page, int count, int flag) {
            if (badSpace(space)) return -1;
            if (badRange(page, count)) return -2;
            SortedMap<Integer, Cell> range = spaces.get(space).subMap(page, page + count);
            int others = (int) range.values().stream().filter(cell -> cell.writable() != (flag != 0)).count();
            range.replaceAll((at, cell) -> new Cell(cell.content(), flag != 0));
            return others;
        }

        int mapped(int space, int page) {
            if (badSpace(space)) return -1;
            if (badPage(page)) return -2;
            return spaces.get(space).containsKey(page) ? 1 : 0;
        }

        int writable(int space, int page) {
            if (badSpace(space)) return -1;
            if (badPage(page)) return -2;
            return spaces.get(space).getOrDefault(page, new Cell(0, false)).writable() ? 1 : 0;
        }

        int read(int space, int page) {
            if (badSpace(space) || badPage(page)) return 0;
            return spaces.get(space).getOrDefault(page, new Cell(0, false)).content();
        }

        int write(int space, int page, int value) {
            if (badSpace(space)) return -1;
            if (badPage(page)) return -2;
            Cell cell = spaces.get(space).get(page);
            if (cell == null) return -3;
            if (!cell.writable()) return -4;
            spaces.get(space).put(page, new Cell(value, true));
            return 0;
        }

        int touch(int space, int page, int value) {
            if (badSpace(space)) return -1;
            if (badPage(page)) return -2;
            Cell cell = spaces.get(space).get(page);
            if (cell == null && used() == frames) return -3;
            if (cell != null && !cell.writable()) return -4;
            return spaces.get(space).put(page, new Cell(value, true)) == null ? 1 : 0;
        }

        int stamp(int space, int range, int value) {
            if (badSpace(space)) return -1;
            if (range < 0 || badRange(range / 64, range % 64)) return -2;
            int next = value;
            for (var entry : spaces.get(space).subMap(range / 64, range / 64 + range % 64).entrySet()) {
                entry.setValue(new Cell(next++, entry.getValue().writable()));
            }
            return next - value;
        }

        int remap(int space, int from, int to) {
            if (badSpace(space)) return -1;
            if (badPage(from) || badPage(to)) return -2;
            if (!spaces.get(space).containsKey(from)) return -3;
            if (spaces.get(space).containsKey(to)) return -4;
            spaces.get(space).put(to, spaces.get(space).remove(from));
            return 0;
        }

        int duplicate(int space, int page) {
            if (badSpace(space)) return -1;
            if (badPage(page)) return -2;
            if (!spaces.get(space).containsKey(page)) return -3;
            if (spaces.get(1 - space).containsKey(page)) return -4;
            if (used() == frames) return -5;
            spaces.get(1 - space).put(page, spaces.get(space).get(page));
            return 0;
        }

        int exchange(int page) {
            if (badPage(page)) return -1;
            Cell one = spaces.get(0).remove(page);
            Cell other = spaces.get(1).remove(page);
            if (one != null) spaces.get(1).put(page, one);
            if (other != null) spaces.get(0).put(page, other);
            return 0;
        }

        int sum(int space) {
            return badSpace(space) ? 0 : spaces.get(space).values().stream().mapToInt(Cell::content).sum();
        }

        int nextMapped(int space, int page) {
            if (badSpace(space)) return -1;
            if (badPage(page)) return -2;
            SortedMap<Integer, Cell> rest = spaces.get(space).tailMap(page);
            return rest.isEmpty() ? -3 : rest.firstKey();
        }

        int[] pages() {
            int[] seen = new int[192];
            int at = 0;
            for (int space = 0; space < 2; space++) {
                for (int page = 0; page < 32; page++) {
                    seen[at++] = mapped(space, page);
                    seen[at++] = writable(space, page);
                    seen[at++] = read(space, page);
                }
            }
            return seen;
        }
    }

    public static void main(String[] args) {
        for (int run = 0; run < RUNS; run++) {
            int frames = run % 10 == 0 ? pick(EXTREMES) : below(60);
            run("run " + run + " of " + frames + " frames: ", frames);
        }
        Checks.finish();
    }

    private static void run(String told, int frames) {
        PageRangeStore store = new PageRangeStore(frames);
        Model model = new Model(frames);
        Checks.due(told + "frames()", store.frames(), model.frames);
        for (int call = 0; call < CALLS; call++) {
            oneCall(told + "call " + call + " ", store, model);
        }
        Checks.due(told + "used()", store.used(), model.used());
        Checks.holds(told + "the pages are as in the model", Arrays.equals(Checks.pagesOf(store), model.pages()));
    }

    private static void oneCall(String told, PageRangeStore s, Model m) {
        int a = space();
        int p = page();
        int c = count();
        int v = value();
        String args = "(" + a + ", " + p + ", " + c + ", " + v + ")";
        switch (below(18)) {
            case 0 -> Checks.due(told + "used", s.used(), m.used());
            case 1 -> Checks.due(told + "mappedIn" + args, s.mappedIn(a), m.mappedIn(a));
            case 2, 3 -> Checks.due(told + "map" + args, s.map(a, p, c), m.map(a, p, c));
            case 4 -> Checks.due(told + "unmap" + args, s.unmap(a, p, c), m.unmap(a, p, c));
            case 5 -> {
                int flag = below(2) == 0 ? 0 : v;
                Checks.due(told + "protect" + args + " " + flag, s.protect(a, p, c, flag), m.protect(a, p, c, flag));
            }
            case 6 -> Checks.due(told + "mapped" + args, s.mapped(a, p), m.mapped(a, p));
            case 7 -> Checks.due(told + "writable" + args, s.writable(a, p), m.writable(a, p));
            case 8 -> Checks.due(told + "read" + args, s.read(a, p), m.read(a, p));
            case 9 -> Checks.due(told + "write" + args, s.write(a, p, v), m.write(a, p, v));
            case 10, 11 -> Checks.due(told + "touch" + args, s.touch(a, p, v), m.touch(a, p, v));
            case 12 -> {
                int range = below(10) == 0 ? v : 64 * p + c;
                Checks.due(told + "stamp" + args + " " + range, s.stamp(a, range, v), m.stamp(a, range, v));
            }
            case 13 -> {
                int to = page();
                Checks.due(told + "remap" + args + " " + to, s.remap(a, p, to), m.remap(a, p, to));
            }
            case 14 -> Checks.due(told + "duplicate" + args, s.duplicate(a, p), m.duplicate(a, p));
            case 15 -> Checks.due(told + "exchange" + args, s.exchange(p), m.exchange(p));
            case 16 -> Checks.due(told + "sum" + args, s.sum(a), m.sum(a));
            default -> Checks.due(told + "nextMapped" + args, s.nextMapped(a, p), m.nextMapped(a, p));
        }
    }

    private static int space() {
        return below(25) == 0 ? pick(EXTREMES) : below(2);
    }

    private static int page() {
        return below(20) == 0 ? pick(EXTREMES) : below(32);
    }

    private static int count() {
        if (below(20) == 0) {
            return pick(EXTREMES);
        }
        return below(4) == 0 ? 1 + below(32) : 1 + below(5);
    }

    private static int value() {
        return below(4) == 0 ? pick(EXTREMES) : (int) next();
    }

    private static int pick(int[] values) {
        return values[below(values.length)];
    }

    private static int below(int bound) {
        return (int) Long.remainderUnsigned(next(), bound);
    }

    /** A linear congruential step; its high bits alone are mixed enough to use. */
    private static long next() {
        sequence = sequence * 6364136223846793005L + 1442695040888963407L;
        return sequence >>> 32;
    }
}
