/** Promises 5, 6, 7 and 13: map, unmap, protect, stamp. */
public final class RangesTest {
    public static void main(String[] args) {
        goodRangesAreTaken();
        badRangesAreRefused();
        mapLeavesMappedPagesAsTheyAre();
        mapGivesNewPagesTheContentZeroAndMakesThemWritable();
        mapCountsOnlyNewPagesAgainstTheFrames();
        unmapTakesOnlyThePagesOfTheRange();
        protectAnswersHowManyChanged();
        protectLeavesPagesThatAreNotMapped();
        stampNumbersMappedPagesInOrder();
        stampWritesReadOnlyPages();
        stampWrapsAround();
        stampRefusesBadRanges();
        Checks.finish();
    }

    private static void goodRangesAreTaken() {
        int[][] ranges = {{0, 1}, {0, 32}, {31, 1}, {30, 2}, {1, 31}, {16, 16}};
        for (int space = 0; space < 2; space++) {
            for (int[] range : ranges) {
                int page = range[0];
                int count = range[1];
                String told = "(" + space + ", " + page + ", " + count + ")";
                PageRangeStore store = new PageRangeStore(48);
                Checks.due("map" + told, store.map(space, page, count), count);
                Checks.due("protect to read-only" + told, store.protect(space, page, count, 0), count);
                Checks.due("stamp" + told, store.stamp(space, 64 * page + count, 1), count);
                Checks.due("sum after stamp" + told, store.sum(space), count * (count + 1) / 2);
                Checks.due("mapped in the other space", store.mappedIn(1 - space), 0);
                Checks.due("unmap" + told, store.unmap(space, page, count), count);
                Checks.due("used() after unmap" + told, store.used(), 0);
            }
        }
    }

    private static void badRangesAreRefused() {
        for (int[] range : Checks.BAD_RANGES) {
            int page = range[0];
            int count = range[1];
            String told = "(0, " + page + ", " + count + ")";
            PageRangeStore store = new PageRangeStore(8);
            store.touch(0, 0, 5);
            store.touch(0, 31, 6);
            Checks.due("map" + told, store.map(0, page, count), -2);
            Checks.due("unmap" + told, store.unmap(0, page, count), -2);
            Checks.due("protect" + told, store.protect(0, page, count, 0), -2);
            Checks.due("map of a bad space and range", store.map(2, page, count), -1);
            Checks.due("unmap of a bad space and range", store.unmap(-1, page, count), -1);
            Checks.due("protect of a bad space and range", store.protect(2, page, count, 0), -1);
            Checks.due("used() after bad ranges", store.used(), 2);
            Checks.due("writable(0, 0) after bad ranges", store.writable(0, 0), 1);
            Checks.due("writable(0, 31) after bad ranges", store.writable(0, 31), 1);
        }
    }

    private static void mapLeavesMappedPagesAsTheyAre() {
        PageRangeStore store = new PageRangeStore(16);
        store.touch(0, 3, 33);
        store.touch(0, 4, 44);
        store.protect(0, 4, 1, 0);
        store.touch(1, 3, 55);
        Checks.due("map over mapped pages", store.map(0, 2, 4), 2);
        Checks.due("read of a page mapped before", store.read(0, 3), 33);
        Checks.due("writable of a page mapped before", store.writable(0, 3), 1);
        Checks.due("read of a read-only page mapped before", store.read(0, 4), 44);
        Checks.due("writable of a read-only page mapped before", store.writable(0, 4), 0);
        Checks.due("read in the other space", store.read(1, 3), 55);
        Checks.due("mapped below the range", store.mapped(0, 1), 0);
        Checks.due("mapped at the range's start", store.mapped(0, 2), 1);
        Checks.due("mapped at the range's end", store.mapped(0, 5), 1);
        Checks.due("mapped above the range", store.mapped(0, 6), 0);
        Checks.due("map of the same range again", store.map(0, 2, 4), 0);
    }

    private static void mapGivesNewPagesTheContentZeroAndMakesThemWritable() {
        PageRangeStore store = new PageRangeStore(8);
        store.touch(1, 7, 77);
        store.protect(1, 7, 1, 0);
        store.unmap(1, 7, 1);
        Checks.due("map of a page that was mapped once", store.map(1, 7, 1), 1);
        Checks.due("read of it", store.read(1, 7), 0);
        Checks.due("writable of it", store.writable(1, 7), 1);

        store.touch(0, 1, 11);
        store.protect(0, 1, 1, 0);
        store.remap(0, 1, 2);
        Checks.due("map of a page that was moved away", store.map(0, 1, 1), 1);
        Checks.due("read of the moved one's old place", store.read(0, 1), 0);
        Checks.due("writable of the moved one's old place", store.writable(0, 1), 1);

        store.exchange(2);
        Checks.due("map of a page that was exchanged away", store.map(0, 2, 1), 1);
        Checks.due("read of the exchanged one's old place", store.read(0, 2), 0);
        Checks.due("writable of the exchanged one's old place", store.writable(0, 2), 1);
    }

    private static void mapCountsOnlyNewPagesAgainstTheFrames() {
        PageRangeStore store = new PageRangeStore(8);
        Checks.due("map of one page too many", store.map(0, 0, 9), -3);
        Checks.due("used() after it", store.used(), 0);
        Checks.due("map of just all frames", store.map(0, 0, 8), 8);
        Checks.due("map of mapped pages when full", store.map(0, 0, 8), 0);
        Checks.due("map of one more when full", store.map(0, 0, 9), -3);
        Checks.due("map in the other space when full", store.map(1, 0, 1), -3);
        Checks.due("unmap of two", store.unmap(0, 2, 2), 2);
        Checks.due("map of two old and three new", store.map(0, 1, 8), -3);
        Checks.due("mapped(0, 2) after the refusal", store.mapped(0, 2), 0);
        Checks.due("map that fills the gap", store.map(0, 0, 8), 2);
        Checks.due("used() at the end", store.used(), 8);
    }

    private static void unmapTakesOnlyThePagesOfTheRange() {
        PageRangeStore store = new PageRangeStore(24);
        store.map(0, 4, 6);
        store.map(1, 4, 6);
        store.protect(0, 5, 1, 0);
        store.stamp(0, 32, 10);
        Checks.due("unmap with pages not mapped", store.unmap(0, 0, 6), 2);
        Checks.due("mapped(0, 5)", store.mapped(0, 5), 0);
        Checks.due("mapped(0, 6)", store.mapped(0, 6), 1);
        Checks.due("read of a lost content", store.read(0, 5), 0);
        Checks.due("read of a kept content", store.read(0, 6), 12);
        Checks.due("writable of a page taken away", store.writable(0, 4), 0);
        Checks.due("mappedIn(1)", store.mappedIn(1), 6);
        Checks.due("sum without the lost contents", store.sum(0), 12 + 13 + 14 + 15);
        Checks.due("unmap again", store.unmap(0, 0, 6), 0);
        Checks.due("unmap(2, 4, 1)", store.unmap(2, 4, 1), -1);
    }

    private static void protectAnswersHowManyChanged() {
        PageRangeStore store = new PageRangeStore(16);
        store.map(0, 0, 6);
        store.map(1, 0, 6);
        store.stamp(0, 32, 10);
        Checks.due("protect to writable what is so", store.protect(0, 0, 6, 1), 0);
        Checks.due("protect to read-only", store.protect(0, 2, 2, 0), 2);
        Checks.due("writable below the range", store.writable(0, 1), 1);
        Checks.due("writable at the start", store.writable(0, 2), 0);
        Checks.due("writable at the end", store.writable(0, 3), 0);
        Checks.due("writable above the range", store.writable(0, 4), 1);
        Checks.due("writable in the other space", store.writable(1, 2), 1);
        Checks.due("protect to read-only, half of it so", store.protect(0, 1, 2, 0), 1);
        Checks.due("protect to writable with -1", store.protect(0, 0, 32, -1), 3);
        Checks.due("protect to read-only again", store.protect(0, 0, 32, 0), 6);
        Checks.due("protect to writable with 256", store.protect(0, 0, 1, 256), 1);
        Checks.due("protect with the least int", store.protect(0, 1, 1, Integer.MIN_VALUE), 1);
        Checks.due("protect with the greatest int", store.protect(0, 2, 1, Integer.MAX_VALUE), 1);
        Checks.due("protect with 2", store.protect(0, 3, 1, 2), 1);
        Checks.due("writable(0, 3)", store.writable(0, 3), 1);
        Checks.due("sum(0), contents untouched", store.sum(0), 10 + 11 + 12 + 13 + 14 + 15);
    }

    private static void protectLeavesPagesThatAreNotMapped() {
        PageRangeStore store = new PageRangeStore(8);
        Checks.due("protect to read-only with none mapped", store.protect(0, 0, 32, 0), 0);
        Checks.due("protect to writable with none mapped", store.protect(0, 0, 32, 1), 0);
        Checks.due("used() after it", store.used(), 0);
        store.protect(0, 3, 1, 0);
        store.map(0, 3, 1);
        Checks.due("writable of a page mapped after protect", store.writable(0, 3), 1);
        store.protect(0, 4, 1, 0);
        store.touch(0, 4, 1);
        Checks.due("writable of a page touched after protect", store.writable(0, 4), 1);
    }

    private static void stampNumbersMappedPagesInOrder() {
        PageRangeStore store = new PageRangeStore(16);
        store.touch(0, 9, -1);
        store.touch(0, 2, -1);
        store.touch(0, 5, -1);
        store.touch(0, 6, -1);
        store.touch(1, 5, -1);
        Checks.due("stamp of pages 2 .. 8", store.stamp(0, 64 * 2 + 7, 100), 3);
        Checks.due("read(0, 2)", store.read(0, 2), 100);
        Checks.due("read(0, 5)", store.read(0, 5), 101);
        Checks.due("read(0, 6)", store.read(0, 6), 102);
        Checks.due("read above the range", store.read(0, 9), -1);
        Checks.due("read in the other space", store.read(1, 5), -1);
        Checks.due("stamp of pages 3 .. 5", store.stamp(0, 64 * 3 + 3, 7), 1);
        Checks.due("read below the range", store.read(0, 2), 100);
        Checks.due("read(0, 5) again", store.read(0, 5), 7);
        Checks.due("stamp with none mapped in the range", store.stamp(0, 64 * 20 + 12, 7), 0);
        Checks.due("stamp maps nothing", store.mappedIn(0), 4);
    }

    private static void stampWritesReadOnlyPages() {
        PageRangeStore store = new PageRangeStore(8);
        store.map(1, 0, 4);
        store.protect(1, 1, 2, 0);
        Checks.due("stamp over read-only pages", store.stamp(1, 32, 20), 4);
        for (int page = 0; page < 4; page++) {
            Checks.due("read of stamped page " + page, store.read(1, page), 20 + page);
        }
        Checks.due("writable of a read-only page after stamp", store.writable(1, 1), 0);
        Checks.due("writable of a writable page after stamp", store.writable(1, 3), 1);
    }

    private static void stampWrapsAround() {
        PageRangeStore store = new PageRangeStore(8);
        store.map(0, 0, 3);
        Checks.due("stamp from the greatest int", store.stamp(0, 32, Integer.MAX_VALUE), 3);
        Checks.due("read(0, 0)", store.read(0, 0), Integer.MAX_VALUE);
        Checks.due("read(0, 1)", store.read(0, 1), Integer.MIN_VALUE);
        Checks.due("read(0, 2)", store.read(0, 2), Integer.MIN_VALUE + 1);
    }

    private static void stampRefusesBadRanges() {
        PageRangeStore store = new PageRangeStore(48);
        store.map(0, 0, 32);
        for (int range : Checks.BAD_STAMP_RANGES) {
            Checks.due("stamp(0, " + range + ", 5)", store.stamp(0, range, 5), -2);
            Checks.due("stamp(2, " + range + ", 5)", store.stamp(2, range, 5), -1);
        }
        Checks.due("stamp(2, 1, 5)", store.stamp(2, 1, 5), -1);
        Checks.due("stamp(-1, 1, 5)", store.stamp(-1, 1, 5), -1);
        Checks.due("sum after refused stamps", store.sum(0), 0);
        Checks.due("stamp of page 31 alone", store.stamp(0, 64 * 31 + 1, 5), 1);
        Checks.due("read(0, 31)", store.read(0, 31), 5);
    }
}
