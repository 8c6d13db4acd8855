/** Promises 14 to 16: remap, duplicate, exchange. */
public final class MovesTest {
    public static void main(String[] args) {
        remapMovesContentAndWritability();
        remapNeedsNoFreeFrame();
        remapRefusesInOrder();
        duplicateCopiesContentAndWritability();
        copiesAreIndependent();
        duplicateRefusesInOrder();
        exchangeSwapsTwoMappedPages();
        exchangeMovesAPageToTheOtherSpace();
        exchangeRefusesOtherPages();
        Checks.finish();
    }

    private static void remapMovesContentAndWritability() {
        for (int space = 0; space < 2; space++) {
            PageRangeStore store = new PageRangeStore(8);
            store.touch(space, 0, 11);
            store.touch(space, 30, 22);
            store.protect(space, 30, 1, 0);
            store.touch(1 - space, 0, 33);
            Checks.due("remap of a writable page", store.remap(space, 0, 31), 0);
            Checks.noPage("after remap away", store, space, 0);
            Checks.page("after remap", store, space, 31, 1, 11);
            Checks.due("remap of a read-only page", store.remap(space, 30, 0), 0);
            Checks.noPage("after remap away", store, space, 30);
            Checks.page("after remap", store, space, 0, 0, 22);
            Checks.page("in the other space", store, 1 - space, 0, 1, 33);
            Checks.due("used() after remap", store.used(), 3);
            Checks.due("remap over a place once read-only", store.remap(space, 31, 30), 0);
            Checks.page("after remap", store, space, 30, 1, 11);
        }
    }

    private static void remapNeedsNoFreeFrame() {
        PageRangeStore store = new PageRangeStore(8);
        store.map(0, 0, 8);
        store.stamp(0, 8, 50);
        Checks.due("remap with all frames used", store.remap(0, 7, 20), 0);
        Checks.page("after remap with all frames used", store, 0, 20, 1, 57);
        Checks.due("used() after it", store.used(), 8);
    }

    private static void remapRefusesInOrder() {
        PageRangeStore store = new PageRangeStore(8);
        store.touch(0, 1, 11);
        store.touch(0, 2, 22);
        store.touch(1, 3, 33);
        for (int space : Checks.BAD_SPACES) {
            Checks.due("remap(" + space + ", 1, 4)", store.remap(space, 1, 4), -1);
            Checks.due("remap(" + space + ", 32, 32)", store.remap(space, 32, 32), -1);
        }
        for (int page : Checks.BAD_PAGES) {
            Checks.due("remap(0, " + page + ", 4)", store.remap(0, page, 4), -2);
            Checks.due("remap(0, 1, " + page + ")", store.remap(0, 1, page), -2);
            Checks.due("remap from a page not mapped to " + page, store.remap(0, 5, page), -2);
            Checks.due("remap to a mapped page from " + page, store.remap(0, page, 2), -2);
            Checks.due("remap from and to " + page, store.remap(0, page, page), -2);
        }
        Checks.due("remap of a page not mapped", store.remap(0, 3, 4), -3);
        Checks.due("remap of a page not mapped to a mapped one", store.remap(0, 3, 1), -3);
        Checks.due("remap of a page not mapped to itself", store.remap(0, 3, 3), -3);
        Checks.due("remap to a mapped page", store.remap(0, 1, 2), -4);
        Checks.due("remap of a mapped page to itself", store.remap(0, 1, 1), -4);
        Checks.due("remap to what only the other space has", store.remap(0, 1, 3), 0);
        Checks.page("after refusals", store, 0, 2, 1, 22);
        Checks.page("after refusals", store, 0, 3, 1, 11);
        Checks.page("after refusals", store, 1, 3, 1, 33);
        Checks.due("used() after refusals", store.used(), 3);
    }

    private static void duplicateCopiesContentAndWritability() {
        for (int space = 0; space < 2; space++) {
            PageRangeStore store = new PageRangeStore(8);
            store.touch(space, 0, 11);
            store.touch(space, 31, -22);
            store.protect(space, 31, 1, 0);
            Checks.due("duplicate of a writable page", store.duplicate(space, 0), 0);
            Checks.page("after duplicate", store, 1 - space, 0, 1, 11);
            Checks.page("duplicated", store, space, 0, 1, 11);
            Checks.due("duplicate of a read-only page", store.duplicate(space, 31), 0);
            Checks.page("after duplicate", store, 1 - space, 31, 0, -22);
            Checks.page("duplicated", store, space, 31, 0, -22);
            Checks.due("used() after duplicate", store.used(), 4);
        }
    }

    private static void copiesAreIndependent() {
        PageRangeStore store = new PageRangeStore(8);
        store.touch(0, 6, 1);
        store.duplicate(0, 6);
        store.write(0, 6, 2);
        Checks.page("after a write to the other", store, 1, 6, 1, 1);
        store.protect(1, 6, 1, 0);
        Checks.page("after a protect of the copy", store, 0, 6, 1, 2);
        store.unmap(0, 6, 1);
        Checks.page("after an unmap of the other", store, 1, 6, 0, 1);
    }

    private static void duplicateRefusesInOrder() {
        PageRangeStore store = new PageRangeStore(8);
        store.map(0, 0, 4);
        store.map(1, 3, 4);
        store.stamp(0, 32, 10);
        store.stamp(1, 32, 20);
        for (int space : Checks.BAD_SPACES) {
            Checks.due("duplicate(" + space + ", 0)", store.duplicate(space, 0), -1);
            Checks.due("duplicate(" + space + ", 32)", store.duplicate(space, 32), -1);
        }
        for (int page : Checks.BAD_PAGES) {
            Checks.due("duplicate(0, " + page + ")", store.duplicate(0, page), -2);
            Checks.due("duplicate(1, " + page + ")", store.duplicate(1, page), -2);
        }
        Checks.due("duplicate of a page not mapped, the other mapped", store.duplicate(0, 4), -3);
        Checks.due("duplicate of a page not mapped", store.duplicate(0, 20), -3);
        Checks.due("duplicate onto a mapped page with no frame left", store.duplicate(0, 3), -4);
        Checks.due("duplicate with no frame left", store.duplicate(0, 0), -5);
        Checks.page("after refusals", store, 0, 3, 1, 13);
        Checks.page("after refusals", store, 1, 3, 1, 20);
        Checks.noPage("after refusals", store, 1, 0);
        store.unmap(1, 6, 1);
        Checks.due("duplicate with one frame left", store.duplicate(0, 0), 0);
        Checks.due("duplicate with no frame left again", store.duplicate(1, 5), -5);
        Checks.due("used() at the end", store.used(), 8);
    }

    private static void exchangeSwapsTwoMappedPages() {
        PageRangeStore store = new PageRangeStore(8);
        store.touch(0, 0, 11);
        store.touch(1, 0, 22);
        store.protect(1, 0, 1, 0);
        store.touch(0, 1, 33);
        Checks.due("exchange(0)", store.exchange(0), 0);
        Checks.page("after exchange", store, 0, 0, 0, 22);
        Checks.page("after exchange", store, 1, 0, 1, 11);
        Checks.page("beside the exchange", store, 0, 1, 1, 33);
        Checks.noPage("beside the exchange", store, 1, 1);
        Checks.due("exchange(0) back", store.exchange(0), 0);
        Checks.page("after exchange back", store, 0, 0, 1, 11);
        Checks.page("after exchange back", store, 1, 0, 0, 22);
    }

    private static void exchangeMovesAPageToTheOtherSpace() {
        PageRangeStore store = new PageRangeStore(8);
        store.map(0, 24, 8);
        store.stamp(0, 32, 0);
        store.stamp(0, 64 * 24 + 8, 40);
        store.protect(0, 31, 1, 0);
        Checks.due("exchange(31) with all frames used", store.exchange(31), 0);
        Checks.noPage("after exchange away", store, 0, 31);
        Checks.page("after exchange", store, 1, 31, 0, 47);
        Checks.due("exchange(24)", store.exchange(24), 0);
        Checks.noPage("after exchange away", store, 0, 24);
        Checks.page("after exchange", store, 1, 24, 1, 40);
        Checks.due("exchange(24) back", store.exchange(24), 0);
        Checks.noPage("after exchange back", store, 1, 24);
        Checks.page("after exchange back", store, 0, 24, 1, 40);
        Checks.due("exchange of two pages not mapped", store.exchange(3), 0);
        Checks.noPage("after an exchange of nothing", store, 0, 3);
        Checks.noPage("after an exchange of nothing", store, 1, 3);
        Checks.due("used() after exchange", store.used(), 8);
    }

    private static void exchangeRefusesOtherPages() {
        PageRangeStore store = new PageRangeStore(48);
        store.map(0, 0, 32);
        for (int page : Checks.BAD_PAGES) {
            Checks.due("exchange(" + page + ")", store.exchange(page), -1);
        }
        Checks.due("mappedIn(0) after refusals", store.mappedIn(0), 32);
    }
}
