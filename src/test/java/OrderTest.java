/**
 * Terms: "In every method the tests are made in the order named." For each two
 * refusals of a method that can be due at once, a call that asks for both must
 * get the one named first.
 */
public final class OrderTest {
    private static final int[] BAD_SPACES = Checks.BAD_SPACES;
    private static final int[] BAD_PAGES = Checks.BAD_PAGES;

    public static void main(String[] args) {
        Checks.sentence("Terms", "In every method the tests are made in the order named.");
        spaceBeforePage();
        spaceBeforeRange();
        spaceBeforeFrames();
        pageOrRangeBeforeFrames();
        spaceBeforeWhatIsMapped();
        pageBeforeWhatIsMapped();
        notMappedBeforeTheRest();
        mappedBeforeFrames();
        framesAndReadOnlyDoNotMeet();
        Checks.finish();
    }

    private static void spaceBeforePage() {
        for (int space : BAD_SPACES) {
            PageRangeStore store = Stores.full(48, 0);
            for (int page : BAD_PAGES) {
                String told = "(" + space + ", " + page + ")";
                Checks.due("mapped" + told, store.mapped(space, page), -1);
                Checks.due("writable" + told, store.writable(space, page), -1);
                Checks.due("read" + told, store.read(space, page), 0);
                Checks.due("write" + told, store.write(space, page, 5), -1);
                Checks.due("touch" + told, store.touch(space, page, 5), -1);
                Checks.due("remap from" + told, store.remap(space, page, 0), -1);
                Checks.due("remap to" + told, store.remap(space, 0, page), -1);
                Checks.due("remap from and to" + told, store.remap(space, page, page), -1);
                Checks.due("duplicate" + told, store.duplicate(space, page), -1);
                Checks.due("nextMapped" + told, store.nextMapped(space, page), -1);
            }
        }
    }

    private static void spaceBeforeRange() {
        for (int space : BAD_SPACES) {
            PageRangeStore store = Stores.full(48, 0);
            for (int[] range : Checks.BAD_RANGES) {
                String told = "(" + space + ", " + range[0] + ", " + range[1] + ")";
                Checks.due("map" + told, store.map(space, range[0], range[1]), -1);
                Checks.due("unmap" + told, store.unmap(space, range[0], range[1]), -1);
                Checks.due("protect" + told, store.protect(space, range[0], range[1], 0), -1);
            }
            for (int range : Checks.BAD_STAMP_RANGES) {
                Checks.due("stamp(" + space + ", " + range + ", 5)", store.stamp(space, range, 5), -1);
            }
        }
    }

    private static void spaceBeforeFrames() {
        PageRangeStore store = Stores.full(8, 0);
        for (int space : BAD_SPACES) {
            Checks.due("map(" + space + ", 8, 1) when full", store.map(space, 8, 1), -1);
            Checks.due("touch(" + space + ", 8, 5) when full", store.touch(space, 8, 5), -1);
            Checks.due("duplicate(" + space + ", 0) when full", store.duplicate(space, 0), -1);
        }
    }

    private static void pageOrRangeBeforeFrames() {
        PageRangeStore store = Stores.full(8, 0);
        for (int[] range : Checks.BAD_RANGES) {
            Checks.due("map(0, " + range[0] + ", " + range[1] + ") when full", store.map(0, range[0], range[1]), -2);
            Checks.due("map(1, " + range[0] + ", " + range[1] + ") when full", store.map(1, range[0], range[1]), -2);
        }
        for (int page : BAD_PAGES) {
            Checks.due("touch(0, " + page + ", 5) when full", store.touch(0, page, 5), -2);
            Checks.due("touch(1, " + page + ", 5) when full", store.touch(1, page, 5), -2);
            Checks.due("duplicate(0, " + page + ") when full", store.duplicate(0, page), -2);
            Checks.due("duplicate(1, " + page + ") when full", store.duplicate(1, page), -2);
        }
    }

    private static void spaceBeforeWhatIsMapped() {
        PageRangeStore empty = new PageRangeStore(8);
        PageRangeStore readOnly = Stores.full(48, 0);
        readOnly.protect(0, 0, 32, 0);
        readOnly.protect(1, 0, 32, 0);
        for (int space : BAD_SPACES) {
            Checks.due("write(" + space + ", 0, 5), none mapped", empty.write(space, 0, 5), -1);
            Checks.due("write(" + space + ", 0, 5), all read-only", readOnly.write(space, 0, 5), -1);
            Checks.due("touch(" + space + ", 0, 5), all read-only", readOnly.touch(space, 0, 5), -1);
            Checks.due("remap(" + space + ", 0, 1), none mapped", empty.remap(space, 0, 1), -1);
            Checks.due("remap(" + space + ", 0, 1), all mapped", readOnly.remap(space, 0, 1), -1);
            Checks.due("remap(" + space + ", 0, 0), all mapped", readOnly.remap(space, 0, 0), -1);
            Checks.due("duplicate(" + space + ", 0), none mapped", empty.duplicate(space, 0), -1);
            Checks.due("duplicate(" + space + ", 0), both mapped", readOnly.duplicate(space, 0), -1);
            Checks.due("nextMapped(" + space + ", 0), none mapped", empty.nextMapped(space, 0), -1);
        }
    }

    private static void pageBeforeWhatIsMapped() {
        for (int space = 0; space < 2; space++) {
            PageRangeStore empty = new PageRangeStore(8);
            PageRangeStore readOnly = Stores.full(48, space);
            readOnly.protect(space, 0, 32, 0);
            for (int page : BAD_PAGES) {
                Checks.due("write to " + page + ", none mapped", empty.write(space, page, 5), -2);
                Checks.due("write to " + page + ", all read-only", readOnly.write(space, page, 5), -2);
                Checks.due("touch of " + page + ", all read-only", readOnly.touch(space, page, 5), -2);
                Checks.due("remap from " + page + ", none mapped", empty.remap(space, page, 0), -2);
                Checks.due("remap to " + page + ", from not mapped", empty.remap(space, 0, page), -2);
                Checks.due("remap from " + page + ", to mapped", readOnly.remap(space, page, 0), -2);
                Checks.due("remap from and to " + page, empty.remap(space, page, page), -2);
                Checks.due("duplicate of " + page + ", none mapped", empty.duplicate(space, page), -2);
                Checks.due("nextMapped from " + page + ", none mapped", empty.nextMapped(space, page), -2);
            }
        }
    }

    private static void notMappedBeforeTheRest() {
        for (int space = 0; space < 2; space++) {
            PageRangeStore store = Stores.full(8, 1 - space);
            Checks.due("duplicate, not mapped, the other mapped, no frame", store.duplicate(space, 0), -3);
            Checks.due("duplicate, not mapped, no frame", store.duplicate(space, 8), -3);
            store.unmap(1 - space, 7, 1);
            Checks.due("duplicate, not mapped, the other mapped", store.duplicate(space, 0), -3);
            store.touch(space, 31, 5);
            Checks.due("remap, not mapped, to mapped", store.remap(space, 0, 31), -3);
            Checks.due("remap, not mapped, to the same", store.remap(space, 0, 0), -3);
            store.protect(space, 31, 1, 0);
            store.unmap(space, 31, 1);
            Checks.due("write, not mapped, once read-only", store.write(space, 31, 5), -3);
        }
    }

    private static void mappedBeforeFrames() {
        for (int space = 0; space < 2; space++) {
            PageRangeStore store = new PageRangeStore(8);
            store.map(space, 0, 4);
            store.map(1 - space, 3, 4);
            Checks.due("duplicate, the other mapped, no frame", store.duplicate(space, 3), -4);
            Checks.due("duplicate, the other mapped, no frame", store.duplicate(1 - space, 3), -4);
            Checks.due("duplicate, no frame", store.duplicate(space, 0), -5);
        }
    }

    private static void framesAndReadOnlyDoNotMeet() {
        for (int space = 0; space < 2; space++) {
            PageRangeStore store = Stores.full(8, space);
            store.protect(space, 7, 1, 0);
            Checks.due("touch, read-only, no frame", store.touch(space, 7, 5), -4);
            store.unmap(space, 7, 1);
            store.touch(1 - space, 0, 5);
            Checks.due("touch, not mapped, once read-only, no frame", store.touch(space, 7, 5), -3);
        }
    }
}
