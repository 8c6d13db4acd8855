import java.util.Arrays;

/**
 * Terms: "A refused call changes nothing." After each refused call the store
 * must answer all later calls as a store of the same kind that was not called.
 */
public final class RefusalsTest {
    /** A call on a store in which own is the space with pages 0 .. 4 mapped (see Stores.mixed). */
    private interface Call {
        int on(PageRangeStore store, int own);
    }

    public static void main(String[] args) {
        Checks.sentence("Terms", "A refused call changes nothing.");
        refusedForTheSpace();
        refusedForThePageOrRange();
        refusedForWhatIsMapped();
        refusedWhenFull();
        Checks.finish();
    }

    private static void refusedForTheSpace() {
        for (int bad : Checks.BAD_SPACES) {
            String told = ", space " + bad;
            refused("mappedIn" + told, -1, (store, own) -> store.mappedIn(bad));
            refused("map" + told, -1, (store, own) -> store.map(bad, 9, 1));
            refused("unmap" + told, -1, (store, own) -> store.unmap(bad, 0, 32));
            refused("protect to read-only" + told, -1, (store, own) -> store.protect(bad, 0, 32, 0));
            refused("protect to writable" + told, -1, (store, own) -> store.protect(bad, 0, 32, 1));
            refused("mapped" + told, -1, (store, own) -> store.mapped(bad, 0));
            refused("writable" + told, -1, (store, own) -> store.writable(bad, 0));
            refused("read" + told, 0, (store, own) -> store.read(bad, 0));
            refused("write" + told, -1, (store, own) -> store.write(bad, 0, 99));
            refused("touch of a mapped number" + told, -1, (store, own) -> store.touch(bad, 0, 99));
            refused("touch of a number not mapped" + told, -1, (store, own) -> store.touch(bad, 9, 99));
            refused("stamp" + told, -1, (store, own) -> store.stamp(bad, 32, 99));
            refused("remap" + told, -1, (store, own) -> store.remap(bad, 0, 9));
            refused("duplicate" + told, -1, (store, own) -> store.duplicate(bad, 1));
            refused("sum" + told, 0, (store, own) -> store.sum(bad));
            refused("nextMapped" + told, -1, (store, own) -> store.nextMapped(bad, 0));
        }
    }

    private static void refusedForThePageOrRange() {
        for (int bad : Checks.BAD_PAGES) {
            String told = ", page " + bad;
            refused("mapped" + told, -2, (store, own) -> store.mapped(own, bad));
            refused("writable" + told, -2, (store, own) -> store.writable(own, bad));
            refused("read" + told, 0, (store, own) -> store.read(own, bad));
            refused("write" + told, -2, (store, own) -> store.write(own, bad, 99));
            refused("touch" + told, -2, (store, own) -> store.touch(own, bad, 99));
            refused("remap from it" + told, -2, (store, own) -> store.remap(own, bad, 9));
            refused("remap to it" + told, -2, (store, own) -> store.remap(own, 0, bad));
            refused("duplicate" + told, -2, (store, own) -> store.duplicate(own, bad));
            refused("exchange" + told, -1, (store, own) -> store.exchange(bad));
            refused("nextMapped" + told, -2, (store, own) -> store.nextMapped(own, bad));
        }
        for (int[] bad : Checks.BAD_RANGES) {
            String told = ", range (" + bad[0] + ", " + bad[1] + ")";
            refused("map" + told, -2, (store, own) -> store.map(own, bad[0], bad[1]));
            refused("unmap" + told, -2, (store, own) -> store.unmap(own, bad[0], bad[1]));
            refused("protect to read-only" + told, -2, (store, own) -> store.protect(own, bad[0], bad[1], 0));
            refused("protect to writable" + told, -2, (store, own) -> store.protect(own, bad[0], bad[1], 1));
        }
        for (int range : Checks.BAD_STAMP_RANGES) {
            refused("stamp, range " + range, -2, (store, own) -> store.stamp(own, range, 99));
        }
    }

    private static void refusedForWhatIsMapped() {
        refused("write, not mapped", -3, (store, own) -> store.write(own, 9, 99));
        refused("write, read-only", -4, (store, own) -> store.write(own, 3, 99));
        refused("touch, read-only", -4, (store, own) -> store.touch(own, 3, 99));
        refused("remap, not mapped", -3, (store, own) -> store.remap(own, 9, 10));
        refused("remap, not mapped, to mapped", -3, (store, own) -> store.remap(own, 9, 0));
        refused("remap, not mapped, to the same", -3, (store, own) -> store.remap(own, 9, 9));
        refused("remap, to mapped", -4, (store, own) -> store.remap(own, 0, 1));
        refused("remap, to read-only", -4, (store, own) -> store.remap(own, 0, 3));
        refused("remap, the same", -4, (store, own) -> store.remap(own, 0, 0));
        refused("remap, the same read-only", -4, (store, own) -> store.remap(own, 3, 3));
        refused("duplicate, not mapped", -3, (store, own) -> store.duplicate(own, 9));
        refused("duplicate, not mapped, the other mapped", -3, (store, own) -> store.duplicate(own, 31));
        refused("duplicate, the other mapped", -4, (store, own) -> store.duplicate(own, 0));
        refused("nextMapped, none", -3, (store, own) -> store.nextMapped(own, 5));
    }

    private static void refusedWhenFull() {
        refusedOf(8, "map, one too many", -3, (store, own) -> store.map(own, 0, 6));
        refusedOf(8, "map, far too many", -3, (store, own) -> store.map(own, 0, 32));
        refusedOf(8, "map, one page", -3, (store, own) -> store.map(own, 31, 1));
        refusedOf(16, "map, one too many of 16", -3, (store, own) -> store.map(own, 0, 14));
        refusedOf(16, "map, one too many of 16, the other space", -3, (store, own) -> store.map(1 - own, 1, 9));
        refusedOf(8, "touch, no frame", -3, (store, own) -> store.touch(own, 9, 99));
        refusedOf(8, "duplicate, no frame", -5, (store, own) -> store.duplicate(own, 2));
        refusedOf(8, "duplicate of a read-only page, no frame", -5, (store, own) -> store.duplicate(own, 3));
    }

    /** Refused both with no frame left and with many left. */
    private static void refused(String told, int want, Call call) {
        refusedOf(8, told, want, call);
        refusedOf(48, told, want, call);
    }

    private static void refusedOf(int frames, String told, int want, Call call) {
        for (int own = 0; own < 2; own++) {
            PageRangeStore untouched = Stores.mixed(frames, own);
            PageRangeStore store = Stores.mixed(frames, own);
            Checks.due(told, call.on(store, own), want);
            Checks.due("frames() after " + told, store.frames(), frames);
            Checks.due("used() after " + told, store.used(), 8);
            Checks.holds(told + " changes no page", Arrays.equals(Checks.pagesOf(store), Checks.pagesOf(untouched)));
            Checks.holds(told + " changes no later answer", Arrays.equals(laterAnswers(store), laterAnswers(untouched)));
        }
    }

    /** Answers that hang on all that the store holds, and on how many frames it has left; 204 calls. */
    private static int[] laterAnswers(PageRangeStore store) {
        int[] seen = new int[204];
        int at = 0;
        for (int space = 0; space < 2; space++) {
            seen[at++] = store.mappedIn(space);
            seen[at++] = store.sum(space);
            for (int page = 0; page < 32; page++) {
                seen[at++] = store.nextMapped(space, page);
            }
        }
        for (int page = 0; page < 32; page++) {
            seen[at++] = store.touch(0, page, 1000 + page);
            seen[at++] = store.touch(1, page, 2000 + page);
        }
        for (int space = 0; space < 2; space++) {
            seen[at++] = store.sum(space);
            seen[at++] = store.protect(space, 0, 32, 1);
            for (int page = 0; page < 32; page++) {
                seen[at++] = store.write(space, page, page);
            }
        }
        return seen;
    }
}
