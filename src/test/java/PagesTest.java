/** Promises 8 to 12, 17 and 18: mapped, writable, read, write, touch, sum, nextMapped. */
public final class PagesTest {
    public static void main(String[] args) {
        mappedTellsMappedPages();
        writableTellsMappedAndWritablePages();
        readTellsTheContent();
        writeSetsTheContent();
        writeRefusesInOrder();
        touchMapsWhatIsNotMapped();
        touchRefusesInOrder();
        badPlacesAreRefused();
        sumAddsTheContentsOfOneSpace();
        sumWrapsAround();
        nextMappedFindsTheLeastFromThePageOn();
        Checks.finish();
    }

    private static void mappedTellsMappedPages() {
        PageRangeStore store = new PageRangeStore(8);
        store.map(0, 0, 1);
        store.map(1, 31, 1);
        Checks.due("mapped(0, 0)", store.mapped(0, 0), 1);
        Checks.due("mapped(1, 0)", store.mapped(1, 0), 0);
        Checks.due("mapped(0, 31)", store.mapped(0, 31), 0);
        Checks.due("mapped(1, 31)", store.mapped(1, 31), 1);
        store.protect(0, 0, 1, 0);
        Checks.due("mapped of a read-only page", store.mapped(0, 0), 1);
        store.unmap(0, 0, 1);
        Checks.due("mapped after unmap", store.mapped(0, 0), 0);
    }

    private static void writableTellsMappedAndWritablePages() {
        PageRangeStore store = new PageRangeStore(8);
        Checks.due("writable of a page not mapped", store.writable(1, 31), 0);
        store.map(1, 31, 1);
        Checks.due("writable of a new page", store.writable(1, 31), 1);
        Checks.due("writable in the other space", store.writable(0, 31), 0);
        store.protect(1, 31, 1, 0);
        Checks.due("writable of a read-only page", store.writable(1, 31), 0);
        store.protect(1, 31, 1, 1);
        Checks.due("writable of a page made writable", store.writable(1, 31), 1);
        store.unmap(1, 31, 1);
        Checks.due("writable after unmap", store.writable(1, 31), 0);
    }

    private static void readTellsTheContent() {
        PageRangeStore store = new PageRangeStore(8);
        store.touch(0, 0, Integer.MIN_VALUE);
        store.touch(0, 31, Integer.MAX_VALUE);
        store.touch(1, 0, -5);
        Checks.due("read(0, 0)", store.read(0, 0), Integer.MIN_VALUE);
        Checks.due("read(0, 31)", store.read(0, 31), Integer.MAX_VALUE);
        Checks.due("read(1, 0)", store.read(1, 0), -5);
        Checks.due("read of a page not mapped", store.read(1, 31), 0);
        store.protect(1, 0, 1, 0);
        Checks.due("read of a read-only page", store.read(1, 0), -5);
        store.unmap(1, 0, 1);
        Checks.due("read after unmap", store.read(1, 0), 0);
    }

    private static void writeSetsTheContent() {
        PageRangeStore store = new PageRangeStore(8);
        store.map(0, 4, 2);
        store.map(1, 4, 1);
        Checks.due("write(0, 4, 9)", store.write(0, 4, 9), 0);
        Checks.due("read(0, 4)", store.read(0, 4), 9);
        Checks.due("write(0, 4, -9)", store.write(0, 4, -9), 0);
        Checks.due("read(0, 4)", store.read(0, 4), -9);
        Checks.due("read of the next page", store.read(0, 5), 0);
        Checks.due("read in the other space", store.read(1, 4), 0);
        Checks.due("writable after write", store.writable(0, 4), 1);
        store.map(1, 0, 4);
        Checks.due("write with nearly all frames used", store.write(1, 3, 6), 0);
        store.map(1, 5, 1);
        Checks.due("write with all frames used", store.write(1, 3, 7), 0);
        Checks.due("read(1, 3)", store.read(1, 3), 7);
    }

    private static void writeRefusesInOrder() {
        PageRangeStore store = new PageRangeStore(8);
        store.touch(0, 4, 9);
        store.protect(0, 4, 1, 0);
        Checks.due("write to a read-only page", store.write(0, 4, 1), -4);
        Checks.due("read of it", store.read(0, 4), 9);
        Checks.due("write to a page not mapped", store.write(0, 5, 1), -3);
        Checks.due("mapped of it", store.mapped(0, 5), 0);
        store.unmap(0, 4, 1);
        Checks.due("write to a page once read-only, now not mapped", store.write(0, 4, 1), -3);
    }

    private static void touchMapsWhatIsNotMapped() {
        PageRangeStore store = new PageRangeStore(8);
        Checks.due("touch of a new page", store.touch(1, 31, 4), 1);
        Checks.due("mapped of it", store.mapped(1, 31), 1);
        Checks.due("writable of it", store.writable(1, 31), 1);
        Checks.due("read of it", store.read(1, 31), 4);
        Checks.due("mapped in the other space", store.mapped(0, 31), 0);
        Checks.due("touch of a mapped page", store.touch(1, 31, 5), 0);
        Checks.due("read of it again", store.read(1, 31), 5);
        store.protect(1, 31, 1, 0);
        store.unmap(1, 31, 1);
        Checks.due("touch of a page once read-only", store.touch(1, 31, 6), 1);
        Checks.due("writable of it", store.writable(1, 31), 1);
        Checks.due("read of it", store.read(1, 31), 6);
    }

    private static void touchRefusesInOrder() {
        PageRangeStore store = new PageRangeStore(8);
        store.map(0, 0, 4);
        store.map(1, 0, 3);
        store.protect(0, 0, 1, 0);
        Checks.due("touch of a read-only page", store.touch(0, 0, 1), -4);
        Checks.due("read of it", store.read(0, 0), 0);
        Checks.due("writable of it", store.writable(0, 0), 0);
        Checks.due("touch with one frame left", store.touch(1, 3, 1), 1);
        Checks.due("touch with no frame left", store.touch(1, 4, 1), -3);
        Checks.due("mapped after the refusal", store.mapped(1, 4), 0);
        Checks.due("touch of a writable page with no frame left", store.touch(1, 3, 2), 0);
        Checks.due("read of it", store.read(1, 3), 2);
        Checks.due("touch of a read-only page with no frame left", store.touch(0, 0, 1), -4);
    }

    private static void badPlacesAreRefused() {
        PageRangeStore store = new PageRangeStore(48);
        store.map(0, 0, 32);
        store.map(1, 0, 16);
        store.stamp(0, 32, 1);
        store.stamp(1, 16, 100);
        for (int space : Checks.BAD_SPACES) {
            badPlaceIsRefused(store, space, 0, -1);
            badPlaceIsRefused(store, space, 32, -1);
            Checks.due("sum(" + space + ")", store.sum(space), 0);
        }
        for (int page : Checks.BAD_PAGES) {
            badPlaceIsRefused(store, 0, page, -2);
            badPlaceIsRefused(store, 1, page, -2);
        }
        Checks.due("sum(0) after refusals", store.sum(0), 32 * 33 / 2);
        Checks.due("sum(1) after refusals", store.sum(1), 16 * 100 + 15 * 16 / 2);
    }

    private static void badPlaceIsRefused(PageRangeStore store, int space, int page, int want) {
        String told = "(" + space + ", " + page + ")";
        Checks.due("mapped" + told, store.mapped(space, page), want);
        Checks.due("writable" + told, store.writable(space, page), want);
        Checks.due("read" + told, store.read(space, page), 0);
        Checks.due("write" + told, store.write(space, page, 7), want);
        Checks.due("touch" + told, store.touch(space, page, 7), want);
        Checks.due("nextMapped" + told, store.nextMapped(space, page), want);
    }

    private static void sumAddsTheContentsOfOneSpace() {
        PageRangeStore store = new PageRangeStore(8);
        Checks.due("sum(0) with none mapped", store.sum(0), 0);
        store.touch(0, 0, 5);
        store.touch(0, 31, -8);
        store.touch(1, 0, 100);
        store.touch(1, 31, 1000);
        Checks.due("sum(0)", store.sum(0), -3);
        Checks.due("sum(1)", store.sum(1), 1100);
        store.protect(0, 0, 32, 0);
        Checks.due("sum(0) of read-only pages", store.sum(0), -3);
        store.unmap(0, 31, 1);
        Checks.due("sum(0) after unmap", store.sum(0), 5);
    }

    private static void sumWrapsAround() {
        PageRangeStore store = new PageRangeStore(8);
        store.touch(0, 1, Integer.MAX_VALUE);
        store.touch(0, 2, 1);
        Checks.due("sum(0) over the greatest int", store.sum(0), Integer.MIN_VALUE);
        store.touch(0, 3, Integer.MIN_VALUE);
        Checks.due("sum(0) once around", store.sum(0), 0);
    }

    private static void nextMappedFindsTheLeastFromThePageOn() {
        PageRangeStore store = new PageRangeStore(8);
        Checks.due("nextMapped(0, 0) with none mapped", store.nextMapped(0, 0), -3);
        store.touch(1, 0, 1);
        Checks.due("nextMapped(0, 0) with the other space mapped", store.nextMapped(0, 0), -3);
        Checks.due("nextMapped(0, 31) with the other space mapped", store.nextMapped(0, 31), -3);
        store.touch(0, 4, 1);
        store.touch(0, 9, 1);
        Checks.due("nextMapped(0, 0)", store.nextMapped(0, 0), 4);
        Checks.due("nextMapped(0, 4)", store.nextMapped(0, 4), 4);
        Checks.due("nextMapped(0, 5)", store.nextMapped(0, 5), 9);
        Checks.due("nextMapped(0, 10)", store.nextMapped(0, 10), -3);
        store.protect(0, 9, 1, 0);
        Checks.due("nextMapped to a read-only page", store.nextMapped(0, 5), 9);
        store.touch(0, 31, 1);
        Checks.due("nextMapped(0, 10) to the last page", store.nextMapped(0, 10), 31);
        Checks.due("nextMapped(0, 31)", store.nextMapped(0, 31), 31);
        Checks.due("nextMapped(1, 0)", store.nextMapped(1, 0), 0);
        Checks.due("nextMapped(1, 1)", store.nextMapped(1, 1), -3);
    }
}
