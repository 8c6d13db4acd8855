import java.util.Arrays;
import java.util.function.ToIntFunction;

/** Terms: a refused call changes nothing. */
public final class RefusalsTest {
    public static void main(String[] args) {
        refused("map, bad space", -1, store -> store.map(2, 9, 1));
        refused("map, bad range", -2, store -> store.map(0, 9, 24));
        refused("map, too many", -3, store -> store.map(0, 0, 7));
        refused("unmap, bad space", -1, store -> store.unmap(-1, 0, 32));
        refused("unmap, bad range", -2, store -> store.unmap(0, 0, 33));
        refused("protect, bad space", -1, store -> store.protect(2, 0, 32, 0));
        refused("protect, bad range", -2, store -> store.protect(1, 1, 32, 0));
        refused("write, bad space", -1, store -> store.write(2, 0, 99));
        refused("write, bad page", -2, store -> store.write(0, 32, 99));
        refused("write, not mapped", -3, store -> store.write(0, 9, 99));
        refused("write, read-only", -4, store -> store.write(0, 3, 99));
        refused("touch, bad space", -1, store -> store.touch(-1, 31, 99));
        refused("touch, bad page", -2, store -> store.touch(0, 32, 99));
        refused("touch, no frame", -3, store -> store.touch(0, 9, 99));
        refused("touch, read-only", -4, store -> store.touch(0, 3, 99));
        refused("stamp, bad space", -1, store -> store.stamp(2, 1, 99));
        refused("stamp, bad range", -2, store -> store.stamp(0, 33, 99));
        refused("stamp, negative range", -2, store -> store.stamp(0, -1, 99));
        refused("remap, bad space", -1, store -> store.remap(2, 0, 9));
        refused("remap, bad page", -2, store -> store.remap(0, 0, 32));
        refused("remap, not mapped", -3, store -> store.remap(0, 9, 10));
        refused("remap, mapped", -4, store -> store.remap(0, 0, 3));
        refused("remap, same page", -4, store -> store.remap(0, 3, 3));
        refused("duplicate, bad space", -1, store -> store.duplicate(2, 0));
        refused("duplicate, bad page", -2, store -> store.duplicate(0, -1));
        refused("duplicate, not mapped", -3, store -> store.duplicate(0, 31));
        refused("duplicate, mapped", -4, store -> store.duplicate(0, 0));
        refused("duplicate, no frame", -5, store -> store.duplicate(0, 2));
        refused("exchange, bad page", -1, store -> store.exchange(32));
        Checks.finish();
    }

    /** All eight frames used, pages of both spaces read-only and writable, all contents different. */
    private static PageRangeStore fullStore() {
        PageRangeStore store = new PageRangeStore(8);
        store.map(0, 0, 5);
        store.map(1, 0, 1);
        store.map(1, 30, 2);
        store.stamp(0, 32, 10);
        store.stamp(1, 32, 20);
        store.protect(0, 3, 2, 0);
        store.protect(1, 31, 1, 0);
        return store;
    }

    private static void refused(String told, int want, ToIntFunction<PageRangeStore> call) {
        PageRangeStore untouched = fullStore();
        PageRangeStore store = fullStore();
        Checks.due(told, call.applyAsInt(store), want);
        int[] before = Checks.pagesOf(untouched);
        int[] after = Checks.pagesOf(store);
        Checks.holds(told + " changes nothing", Arrays.equals(before, after));
        Checks.due("used() after " + told, store.used(), 8);
        Checks.due("frames() after " + told, store.frames(), 8);
    }
}
