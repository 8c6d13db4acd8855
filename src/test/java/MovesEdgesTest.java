/** The boundary cases that promises 14 to 16 name: remap, duplicate, exchange. */
public final class MovesEdgesTest {
    public static void main(String[] args) {
        remapInOtherSpaces();
        remapOfOtherPages();
        remapFromPagesNotMapped();
        remapToMappedPages();
        remapToTheSamePage();
        remapOtherwise();
        duplicateInOtherSpaces();
        duplicateOfOtherPages();
        duplicateOfPagesNotMapped();
        duplicateOntoMappedPages();
        duplicateWithAllFramesUsed();
        duplicateOtherwise();
        exchangeOfOtherPages();
        exchangeMappedOrNot();
        exchangeOtherwise();
        Checks.finish();
    }

    private static void remapInOtherSpaces() {
        Checks.sentence("Promise 14", "-1 if space is not 0 or 1");
        PageRangeStore store = Stores.full(8, 0);
        for (int space : Checks.BAD_SPACES) {
            Checks.due("remap(" + space + ", 0, 31)", store.remap(space, 0, 31), -1);
            Checks.due("remap(" + space + ", 7, 8)", store.remap(space, 7, 8), -1);
        }
        Checks.due("mapped of what would have moved", store.mapped(0, 0), 1);
        Checks.due("mapped of where it would have gone", store.mapped(0, 31), 0);
    }

    private static void remapOfOtherPages() {
        Checks.sentence("Promise 14", "-2 if from or to is not in 0 .. 31");
        for (int space = 0; space < 2; space++) {
            PageRangeStore store = Stores.full(8, space);
            for (int page : Checks.BAD_PAGES) {
                Checks.due("remap from " + page, store.remap(space, page, 31), -2);
                Checks.due("remap to " + page, store.remap(space, 0, page), -2);
                Checks.due("remap from and to " + page, store.remap(space, page, page), -2);
            }
            Checks.due("pages of the space after it", store.mappedIn(space), 8);
            Checks.due("pages of the other space after it", store.mappedIn(1 - space), 0);
        }
    }

    private static void remapFromPagesNotMapped() {
        Checks.sentence("Promise 14", "-3 if from is not mapped");
        for (int space = 0; space < 2; space++) {
            PageRangeStore store = Stores.fullSpace(1 - space);
            Checks.due("remap from the first page to the last, none mapped", store.remap(space, 0, 31), -3);
            Checks.due("remap from the last page to the first, none mapped", store.remap(space, 31, 0), -3);
            Checks.due("remap to the same page, none mapped", store.remap(space, 5, 5), -3);
            store.touch(space, 31, 9);
            Checks.due("remap from the first page to a mapped one", store.remap(space, 0, 31), -3);
            Checks.page("the mapped one", store, space, 31, 1, 9);
            store.remap(space, 31, 0);
            Checks.due("remap from a page moved away", store.remap(space, 31, 1), -3);
        }
    }

    private static void remapToMappedPages() {
        Checks.sentence("Promise 14", "-4 if to is mapped");
        for (int space = 0; space < 2; space++) {
            PageRangeStore store = Stores.fullSpace(space);
            for (int page = 0; page < 31; page++) {
                Checks.due("remap from " + page + " to 31 with all mapped", store.remap(space, page, 31), -4);
            }
            Checks.due("remap from 31 to 0 with all mapped", store.remap(space, 31, 0), -4);
            store.protect(space, 31, 1, 0);
            Checks.due("remap to a read-only page", store.remap(space, 0, 31), -4);
            Checks.due("remap from a read-only page", store.remap(space, 31, 0), -4);
            Checks.page("the first", store, space, 0, 1, 1);
            Checks.page("the last", store, space, 31, 0, 32);
        }
    }

    private static void remapToTheSamePage() {
        Checks.sentence("Promise 14", "(so also if from and to are the same)");
        for (int space = 0; space < 2; space++) {
            PageRangeStore store = Stores.fullSpace(space);
            for (int page = 0; page < 32; page++) {
                Checks.due("remap of " + page + " to itself", store.remap(space, page, page), -4);
                Checks.page("after it", store, space, page, 1, page + 1);
            }
        }
    }

    private static void remapOtherwise() {
        Checks.sentence("Promise 14", "otherwise 0");
        for (int space = 0; space < 2; space++) {
            PageRangeStore store = Stores.mixed(8, space);
            Checks.due("remap of the first page to the last when full", store.remap(space, 0, 31), 0);
            Checks.noPage("moved away", store, space, 0);
            Checks.page("moved", store, space, 31, 1, 10);
            Checks.page("the same number in the other space", store, 1 - space, 0, 1, 20);
            Checks.page("the same number in the other space", store, 1 - space, 31, 0, 22);
            Checks.due("remap of a read-only page", store.remap(space, 4, 5), 0);
            Checks.noPage("moved away", store, space, 4);
            Checks.page("moved", store, space, 5, 0, 14);
            Checks.due("remap back", store.remap(space, 31, 0), 0);
            Checks.page("moved back", store, space, 0, 1, 10);
            Checks.due("remap of a writable page to where a read-only one was", store.remap(space, 0, 4), 0);
            Checks.page("moved", store, space, 4, 1, 10);
            Checks.due("used() after it", store.used(), 8);
        }
    }

    private static void duplicateInOtherSpaces() {
        Checks.sentence("Promise 15", "-1 if space is not 0 or 1");
        PageRangeStore store = Stores.fullSpace(0);
        for (int space : Checks.BAD_SPACES) {
            Checks.due("duplicate(" + space + ", 0)", store.duplicate(space, 0), -1);
            Checks.due("duplicate(" + space + ", 31)", store.duplicate(space, 31), -1);
        }
        Checks.due("used() after it", store.used(), 32);
    }

    private static void duplicateOfOtherPages() {
        Checks.sentence("Promise 15", "-2 if page is not in 0 .. 31");
        PageRangeStore store = Stores.fullSpace(0);
        for (int page : Checks.BAD_PAGES) {
            Checks.due("duplicate(0, " + page + ")", store.duplicate(0, page), -2);
            Checks.due("duplicate(1, " + page + ")", store.duplicate(1, page), -2);
        }
        Checks.due("used() after it", store.used(), 32);
    }

    private static void duplicateOfPagesNotMapped() {
        Checks.sentence("Promise 15", "-3 if the page of space is not mapped");
        for (int space = 0; space < 2; space++) {
            PageRangeStore store = new PageRangeStore(48);
            for (int page = 0; page < 32; page++) {
                Checks.due("duplicate of " + page + ", none mapped", store.duplicate(space, page), -3);
            }
            store.map(1 - space, 0, 32);
            for (int page = 0; page < 32; page++) {
                Checks.due("duplicate of " + page + ", the other one mapped", store.duplicate(space, page), -3);
            }
            Checks.due("mapped in the space after it", store.mappedIn(space), 0);
        }
    }

    private static void duplicateOntoMappedPages() {
        Checks.sentence("Promise 15", "-4 if the other one is mapped");
        for (int space = 0; space < 2; space++) {
            PageRangeStore store = new PageRangeStore(48);
            store.touch(space, 0, 1);
            store.touch(1 - space, 0, 2);
            store.touch(space, 31, 3);
            store.touch(1 - space, 31, 4);
            store.protect(1 - space, 31, 1, 0);
            Checks.due("duplicate of the first, both mapped", store.duplicate(space, 0), -4);
            Checks.due("duplicate of the last, the other read-only", store.duplicate(space, 31), -4);
            Checks.page("the other first", store, 1 - space, 0, 1, 2);
            Checks.page("the other last", store, 1 - space, 31, 0, 4);
            store.unmap(1 - space, 0, 1);
            Checks.due("duplicate of the first", store.duplicate(space, 0), 0);
            Checks.due("duplicate of the first again", store.duplicate(space, 0), -4);
            Checks.due("duplicate of the copy", store.duplicate(1 - space, 0), -4);
        }
    }

    private static void duplicateWithAllFramesUsed() {
        Checks.sentence("Promise 15", "-5 if frames() pages are mapped");
        for (int frames = 8; frames <= 48; frames += 8) {
            for (int space = 0; space < 2; space++) {
                PageRangeStore store = Stores.full(frames, space);
                int last = Math.min(frames, 32) - 1;
                Checks.due("duplicate with all " + frames + " used", store.duplicate(space, last), -5);
                Checks.noPage("after it", store, 1 - space, last);
                store.unmap(space, 0, 1);
                Checks.due("duplicate with one frame left", store.duplicate(space, last), 0);
                Checks.page("after it", store, 1 - space, last, 1, 0);
                Checks.due("duplicate with none left again", store.duplicate(space, last - 1), -5);
                Checks.due("used() at last", store.used(), frames);
            }
        }
    }

    private static void duplicateOtherwise() {
        Checks.sentence("Promise 15", "otherwise 0");
        for (int space = 0; space < 2; space++) {
            PageRangeStore store = Stores.mixed(16, space);
            Checks.due("duplicate of a writable page", store.duplicate(space, 1), 0);
            Checks.page("copied", store, space, 1, 1, 11);
            Checks.page("copy", store, 1 - space, 1, 1, 11);
            Checks.due("duplicate of a read-only page", store.duplicate(1 - space, 31), 0);
            Checks.page("copied", store, 1 - space, 31, 0, 22);
            Checks.page("copy", store, space, 31, 0, 22);
            store.unmap(space, 0, 1);
            Checks.due("duplicate of the first page", store.duplicate(1 - space, 0), 0);
            Checks.page("copy", store, space, 0, 1, 20);
            store.unmap(space, 31, 1);
            store.touch(space, 31, 5);
            store.unmap(1 - space, 31, 1);
            Checks.due("duplicate of a writable page to where a read-only one was", store.duplicate(space, 31), 0);
            Checks.page("copy", store, 1 - space, 31, 1, 5);
            Checks.due("used() after it", store.used(), 10);
        }
    }

    private static void exchangeOfOtherPages() {
        Checks.sentence("Promise 16", "-1 if page is not in 0 .. 31");
        PageRangeStore store = Stores.full(48, 0);
        for (int page : Checks.BAD_PAGES) {
            Checks.due("exchange(" + page + ")", store.exchange(page), -1);
        }
        Checks.due("mappedIn(0) after it", store.mappedIn(0), 32);
        Checks.due("mappedIn(1) after it", store.mappedIn(1), 16);
    }

    private static void exchangeMappedOrNot() {
        Checks.sentence("Promise 16", "(mapped or not, contents, writability)");
        for (int space = 0; space < 2; space++) {
            PageRangeStore store = Stores.mixed(8, space);
            Checks.due("exchange of two mapped pages", store.exchange(0), 0);
            Checks.page("exchanged", store, space, 0, 1, 20);
            Checks.page("exchanged", store, 1 - space, 0, 1, 10);
            Checks.due("exchange of a read-only page and none when full", store.exchange(3), 0);
            Checks.noPage("exchanged", store, space, 3);
            Checks.page("exchanged", store, 1 - space, 3, 0, 13);
            Checks.due("exchange of none and a read-only page when full", store.exchange(31), 0);
            Checks.page("exchanged", store, space, 31, 0, 22);
            Checks.noPage("exchanged", store, 1 - space, 31);
            Checks.due("exchange of two pages not mapped", store.exchange(15), 0);
            Checks.noPage("exchanged", store, space, 15);
            Checks.noPage("exchanged", store, 1 - space, 15);
            Checks.due("used() after it", store.used(), 8);
            store.protect(space, 0, 1, 0);
            Checks.due("exchange of a read-only and a writable page", store.exchange(0), 0);
            Checks.page("exchanged", store, space, 0, 1, 10);
            Checks.page("exchanged", store, 1 - space, 0, 0, 20);
        }
    }

    private static void exchangeOtherwise() {
        Checks.sentence("Promise 16", "otherwise 0");
        PageRangeStore store = Stores.fullSpace(0);
        for (int page = 0; page < 32; page++) {
            Checks.due("exchange(" + page + ")", store.exchange(page), 0);
            Checks.noPage("exchanged", store, 0, page);
            Checks.page("exchanged", store, 1, page, 1, page + 1);
            Checks.due("mappedIn(1) after it", store.mappedIn(1), page + 1);
        }
    }
}
