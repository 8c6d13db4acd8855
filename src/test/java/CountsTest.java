/** Promises 1 to 4: a new object, frames, used, mappedIn. */
public final class CountsTest {
    public static void main(String[] args) {
        framesAreBoundedAndRoundedDown();
        framesAreALimitForBothSpacesTogether();
        nothingIsMappedAtFirst();
        usedCountsBothSpaces();
        mappedInCountsOneSpace();
        mappedInRefusesOtherSpaces();
        Checks.finish();
    }

    private static void framesAreBoundedAndRoundedDown() {
        int[] asked = {Integer.MIN_VALUE, -8, -1, 0, 1, 7, 8, 9, 15, 16, 17, 23, 24, 31, 32, 39, 40, 47, 48, 49, 55, 56, 64,
            Integer.MAX_VALUE};
        int[] got = {8, 8, 8, 8, 8, 8, 8, 8, 8, 16, 16, 16, 24, 24, 32, 32, 40, 40, 48, 48, 48, 48, 48, 48};
        for (int i = 0; i < asked.length; i++) {
            Checks.due("frames() of a store made with " + asked[i], new PageRangeStore(asked[i]).frames(), got[i]);
        }
    }

    private static void framesAreALimitForBothSpacesTogether() {
        for (int frames = 8; frames <= 48; frames += 8) {
            PageRangeStore store = new PageRangeStore(frames + 7);
            for (int page = 0; page < frames / 2; page++) {
                Checks.due("touch in space 0", store.touch(0, page, 1), 1);
                Checks.due("touch in space 1", store.touch(1, 31 - page, 1), 1);
            }
            Checks.due("touch with all " + frames + " frames used", store.touch(0, 31, 1), -3);
            Checks.due("used() with all frames used", store.used(), frames);
            Checks.due("frames() with all frames used", store.frames(), frames);
        }
    }

    private static void nothingIsMappedAtFirst() {
        PageRangeStore store = new PageRangeStore(48);
        Checks.due("used() at first", store.used(), 0);
        for (int seen : Checks.pagesOf(store)) {
            Checks.due("mapped, writable or read at first", seen, 0);
        }
    }

    private static void usedCountsBothSpaces() {
        PageRangeStore store = new PageRangeStore(16);
        store.map(0, 0, 3);
        Checks.due("used() after map", store.used(), 3);
        store.map(1, 30, 2);
        Checks.due("used() after map in both spaces", store.used(), 5);
        store.map(0, 1, 4);
        Checks.due("used() after an overlapping map", store.used(), 7);
        store.map(0, 0, 32);
        Checks.due("used() after a refused map", store.used(), 7);
        store.protect(0, 0, 32, 0);
        Checks.due("used() after protect", store.used(), 7);
        store.touch(1, 30, 9);
        Checks.due("used() after a touch of a mapped page", store.used(), 7);
        store.touch(1, 0, 9);
        Checks.due("used() after a touch of a new page", store.used(), 8);
        store.remap(1, 0, 5);
        Checks.due("used() after remap", store.used(), 8);
        store.exchange(5);
        Checks.due("used() after exchange", store.used(), 8);
        store.duplicate(0, 0);
        Checks.due("used() after duplicate", store.used(), 9);
        store.unmap(0, 0, 32);
        Checks.due("used() after unmap", store.used(), 3);
    }

    private static void mappedInCountsOneSpace() {
        PageRangeStore store = new PageRangeStore(48);
        store.map(0, 0, 32);
        Checks.due("mappedIn(0) when full", store.mappedIn(0), 32);
        Checks.due("mappedIn(1) when empty", store.mappedIn(1), 0);
        store.touch(1, 0, 1);
        store.touch(1, 31, 1);
        Checks.due("mappedIn(1) at both ends", store.mappedIn(1), 2);
        store.unmap(0, 31, 1);
        Checks.due("mappedIn(0) after unmap", store.mappedIn(0), 31);
        store.exchange(31);
        Checks.due("mappedIn(0) after exchange", store.mappedIn(0), 32);
        Checks.due("mappedIn(1) after exchange", store.mappedIn(1), 1);
    }

    private static void mappedInRefusesOtherSpaces() {
        PageRangeStore store = new PageRangeStore(48);
        store.map(0, 0, 32);
        store.map(1, 0, 5);
        for (int space : Checks.BAD_SPACES) {
            Checks.due("mappedIn(" + space + ")", store.mappedIn(space), -1);
        }
    }
}
