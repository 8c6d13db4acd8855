import java.util.List;
import java.util.SortedMap;
import java.util.TreeMap;

/**
 * The document told another way, for the tests to compare with: a map of
 * pages for each space, and ranges in long numbers, which do not wrap around.
 */
final class Model {
    private record Cell(int content, boolean writable) {
    }

    final int frames;
    final List<SortedMap<Integer, Cell>> spaces = List.of(new TreeMap<>(), new TreeMap<>());

    Model(int frames) {
        int limit = Math.max(8, Math.min(48, frames));
        this.frames = limit / 8 * 8;
    }

    int used() {
        return spaces.get(0).size() + spaces.get(1).size();
    }

    static boolean badSpace(int space) {
        return space < 0 || space > 1;
    }

    static boolean badPage(int page) {
        return page < 0 || page > 31;
    }

    static boolean badRange(long page, long count) {
        return count < 1 || count > 32 || page < 0 || page + count > 32;
    }

    int mappedIn(int space) {
        return badSpace(space) ? -1 : spaces.get(space).size();
    }

    int map(int space, int page, int count) {
        if (badSpace(space)) return -1;
        if (badRange(page, count)) return -2;
        SortedMap<Integer, Cell> then = new TreeMap<>(spaces.get(space));
        for (int at = page; at < page + count; at++) then.putIfAbsent(at, new Cell(0, true));
        int fresh = then.size() - spaces.get(space).size();
        if (used() + fresh > frames) return -3;
        spaces.get(space).putAll(then);
        return fresh;
    }

    int unmap(int space, int page, int count) {
        if (badSpace(space)) return -1;
        if (badRange(page, count)) return -2;
        SortedMap<Integer, Cell> range = spaces.get(space).subMap(page, page + count);
        int taken = range.size();
        range.clear();
        return taken;
    }

    int protect(int space, int page, int count, int flag) {
        if (badSpace(space)) return -1;
        if (badRange(page, count)) return -2;
        SortedMap<Integer, Cell> range = spaces.get(space).subMap(page, page + count);
        int others = (int) range.values().stream().filter(cell -> cell.writable() != (flag != 0)).count();
        range.replaceAll((at, cell) -> new Cell(cell.content(), flag != 0));
        return others;
    }

    int mapped(int space, int page) {
        if (badSpace(space)) return -1;
        if (badPage(page)) return -2;
        return spaces.get(space).containsKey(page) ? 1 : 0;
    }

    int writable(int space, int page) {
        if (badSpace(space)) return -1;
        if (badPage(page)) return -2;
        return spaces.get(space).getOrDefault(page, new Cell(0, false)).writable() ? 1 : 0;
    }

    int read(int space, int page) {
        if (badSpace(space) || badPage(page)) return 0;
        return spaces.get(space).getOrDefault(page, new Cell(0, false)).content();
    }

    int write(int space, int page, int value) {
        if (badSpace(space)) return -1;
        if (badPage(page)) return -2;
        Cell cell = spaces.get(space).get(page);
        if (cell == null) return -3;
        if (!cell.writable()) return -4;
        spaces.get(space).put(page, new Cell(value, true));
        return 0;
    }

    int touch(int space, int page, int value) {
        if (badSpace(space)) return -1;
        if (badPage(page)) return -2;
        Cell cell = spaces.get(space).get(page);
        if (cell == null && used() == frames) return -3;
        if (cell != null && !cell.writable()) return -4;
        return spaces.get(space).put(page, new Cell(value, true)) == null ? 1 : 0;
    }

    int stamp(int space, int range, int value) {
        if (badSpace(space)) return -1;
        if (range < 0 || badRange(range / 64, range % 64)) return -2;
        int next = value;
        for (var entry : spaces.get(space).subMap(range / 64, range / 64 + range % 64).entrySet()) {
            entry.setValue(new Cell(next++, entry.getValue().writable()));
        }
        return next - value;
    }

    int remap(int space, int from, int to) {
        if (badSpace(space)) return -1;
        if (badPage(from) || badPage(to)) return -2;
        if (!spaces.get(space).containsKey(from)) return -3;
        if (spaces.get(space).containsKey(to)) return -4;
        spaces.get(space).put(to, spaces.get(space).remove(from));
        return 0;
    }

    int duplicate(int space, int page) {
        if (badSpace(space)) return -1;
        if (badPage(page)) return -2;
        if (!spaces.get(space).containsKey(page)) return -3;
        if (spaces.get(1 - space).containsKey(page)) return -4;
        if (used() == frames) return -5;
        spaces.get(1 - space).put(page, spaces.get(space).get(page));
        return 0;
    }

    int exchange(int page) {
        if (badPage(page)) return -1;
        Cell one = spaces.get(0).remove(page);
        Cell other = spaces.get(1).remove(page);
        if (one != null) spaces.get(1).put(page, one);
        if (other != null) spaces.get(0).put(page, other);
        return 0;
    }

    int sum(int space) {
        return badSpace(space) ? 0 : spaces.get(space).values().stream().mapToInt(Cell::content).sum();
    }

    int nextMapped(int space, int page) {
        if (badSpace(space)) return -1;
        if (badPage(page)) return -2;
        SortedMap<Integer, Cell> rest = spaces.get(space).tailMap(page);
        return rest.isEmpty() ? -3 : rest.firstKey();
    }

    int[] pages() {
        int[] seen = new int[192];
        int at = 0;
        for (int space = 0; space < 2; space++) {
            for (int page = 0; page < 32; page++) {
                seen[at++] = mapped(space, page);
                seen[at++] = writable(space, page);
                seen[at++] = read(space, page);
            }
        }
        return seen;
    }
}
