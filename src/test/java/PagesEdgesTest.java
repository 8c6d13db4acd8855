/** The boundary cases that promises 8 to 12, 17 and 18 name: mapped, writable, read, write, touch, sum, nextMapped. */
public final class PagesEdgesTest {
    private static final int LEAST = Integer.MIN_VALUE;
    private static final int MOST = Integer.MAX_VALUE;

    public static void main(String[] args) {
        mappedAtTheEnds();
        mappedInOtherSpaces();
        mappedOfOtherPages();
        writableAtTheEnds();
        writableInOtherSpaces();
        writableOfOtherPages();
        readAtTheEnds();
        readOutOfRange();
        readOfPagesNotMapped();
        writeInOtherSpaces();
        writeOfOtherPages();
        writeOfPagesNotMapped();
        writeOfReadOnlyPages();
        writeOtherwise();
        touchInOtherSpaces();
        touchOfOtherPages();
        touchWithAllFramesUsed();
        touchOfReadOnlyPages();
        touchOtherwise();
        sumWraps();
        sumOfNoneAndAll();
        sumOfOtherSpaces();
        nextMappedFromThePageOn();
        nextMappedInOtherSpaces();
        nextMappedOfOtherPages();
        nextMappedWithNone();
        Checks.finish();
    }

    private static void mappedAtTheEnds() {
        Checks.sentence("Promise 8", "1 if the page is mapped, otherwise 0");
        for (int space = 0; space < 2; space++) {
            for (int page = 0; page < 32; page++) {
                PageRangeStore store = new PageRangeStore(8);
                store.touch(space, page, 0);
                for (int at = 0; at < 32; at++) {
                    Checks.due("mapped of " + at + " with " + page + " mapped", store.mapped(space, at), at == page ? 1 : 0);
                    Checks.due("mapped of " + at + " in the other space", store.mapped(1 - space, at), 0);
                }
            }
        }
    }

    private static void mappedInOtherSpaces() {
        Checks.sentence("Promise 8", "-1 if space is not 0 or 1");
        PageRangeStore store = Stores.full(48, 0);
        for (int space : Checks.BAD_SPACES) {
            Checks.due("mapped(" + space + ", 0)", store.mapped(space, 0), -1);
            Checks.due("mapped(" + space + ", 31)", store.mapped(space, 31), -1);
        }
    }

    private static void mappedOfOtherPages() {
        Checks.sentence("Promise 8", "-2 if page is not in 0 .. 31");
        PageRangeStore store = Stores.full(48, 0);
        for (int page : Checks.BAD_PAGES) {
            Checks.due("mapped(0, " + page + ")", store.mapped(0, page), -2);
            Checks.due("mapped(1, " + page + ")", store.mapped(1, page), -2);
        }
    }

    private static void writableAtTheEnds() {
        Checks.sentence("Promise 9", "1 if the page is mapped and writable, otherwise 0");
        for (int space = 0; space < 2; space++) {
            PageRangeStore store = Stores.fullSpace(space);
            store.protect(space, 1, 30, 0);
            for (int page = 0; page < 32; page++) {
                int want = page == 0 || page == 31 ? 1 : 0;
                Checks.due("writable of " + page + ", the ends writable", store.writable(space, page), want);
                Checks.due("writable of " + page + " in the empty space", store.writable(1 - space, page), 0);
            }
            store.unmap(space, 0, 32);
            Checks.due("writable of a page taken away", store.writable(space, 0), 0);
            Checks.due("writable of a page taken away", store.writable(space, 31), 0);
        }
    }

    private static void writableInOtherSpaces() {
        Checks.sentence("Promise 9", "-1 if space is not 0 or 1");
        PageRangeStore store = Stores.full(48, 0);
        for (int space : Checks.BAD_SPACES) {
            Checks.due("writable(" + space + ", 0)", store.writable(space, 0), -1);
            Checks.due("writable(" + space + ", 31)", store.writable(space, 31), -1);
        }
    }

    private static void writableOfOtherPages() {
        Checks.sentence("Promise 9", "-2 if page is not in 0 .. 31");
        PageRangeStore store = Stores.full(48, 0);
        for (int page : Checks.BAD_PAGES) {
            Checks.due("writable(0, " + page + ")", store.writable(0, page), -2);
            Checks.due("writable(1, " + page + ")", store.writable(1, page), -2);
        }
    }

    private static void readAtTheEnds() {
        Checks.sentence("Promise 10", "The content of the page");
        for (int space = 0; space < 2; space++) {
            PageRangeStore store = Stores.fullSpace(space);
            for (int page = 0; page < 32; page++) {
                Checks.due("read of " + page, store.read(space, page), page + 1);
            }
        }
    }

    private static void readOutOfRange() {
        Checks.sentence("Promise 10", "0 if space or page is out of range");
        PageRangeStore store = Stores.full(48, 0);
        store.stamp(0, 32, 100);
        store.stamp(1, 32, 200);
        for (int space : Checks.BAD_SPACES) {
            Checks.due("read(" + space + ", 0)", store.read(space, 0), 0);
            Checks.due("read(" + space + ", 31)", store.read(space, 31), 0);
            Checks.due("read(" + space + ", 32)", store.read(space, 32), 0);
            Checks.due("read(" + space + ", -1)", store.read(space, -1), 0);
        }
        for (int page : Checks.BAD_PAGES) {
            Checks.due("read(0, " + page + ")", store.read(0, page), 0);
            Checks.due("read(1, " + page + ")", store.read(1, page), 0);
        }
    }

    private static void readOfPagesNotMapped() {
        Checks.sentence("Promise 10", "or the page is not mapped");
        for (int space = 0; space < 2; space++) {
            PageRangeStore store = Stores.fullSpace(space);
            Checks.due("read of a page never mapped", store.read(1 - space, 0), 0);
            store.unmap(space, 31, 1);
            Checks.due("read of a page taken away", store.read(space, 31), 0);
            store.remap(space, 0, 31);
            Checks.due("read of a page moved away", store.read(space, 0), 0);
            store.exchange(5);
            Checks.due("read of a page exchanged away", store.read(space, 5), 0);
            Checks.due("write to a page not mapped", store.write(space, 5, 9), -3);
            Checks.due("read of it", store.read(space, 5), 0);
        }
    }

    private static void writeInOtherSpaces() {
        Checks.sentence("Promise 11", "-1 if space is not 0 or 1");
        PageRangeStore store = Stores.full(48, 0);
        for (int space : Checks.BAD_SPACES) {
            Checks.due("write(" + space + ", 0, 5)", store.write(space, 0, 5), -1);
            Checks.due("write(" + space + ", 31, 5)", store.write(space, 31, 5), -1);
        }
        Checks.due("sum(0) after it", store.sum(0), 0);
        Checks.due("sum(1) after it", store.sum(1), 0);
    }

    private static void writeOfOtherPages() {
        Checks.sentence("Promise 11", "-2 if page is not in 0 .. 31");
        PageRangeStore store = Stores.full(48, 0);
        for (int page : Checks.BAD_PAGES) {
            Checks.due("write(0, " + page + ", 5)", store.write(0, page, 5), -2);
            Checks.due("write(1, " + page + ", 5)", store.write(1, page, 5), -2);
        }
        Checks.due("sum(0) after it", store.sum(0), 0);
        Checks.due("sum(1) after it", store.sum(1), 0);
    }

    private static void writeOfPagesNotMapped() {
        Checks.sentence("Promise 11", "-3 if it is not mapped");
        for (int space = 0; space < 2; space++) {
            PageRangeStore store = new PageRangeStore(48);
            store.map(1 - space, 0, 32);
            for (int page = 0; page < 32; page++) {
                Checks.due("write to " + page + " in an empty space", store.write(space, page, 5), -3);
            }
            Checks.due("used() after it", store.used(), 32);
            Checks.due("sum of the other space after it", store.sum(1 - space), 0);
            store.touch(space, 31, 7);
            store.protect(space, 31, 1, 0);
            store.unmap(space, 31, 1);
            Checks.due("write to a page that was read-only and is taken away", store.write(space, 31, 5), -3);
        }
    }

    private static void writeOfReadOnlyPages() {
        Checks.sentence("Promise 11", "-4 if it is read-only");
        for (int space = 0; space < 2; space++) {
            PageRangeStore store = Stores.fullSpace(space);
            store.protect(space, 0, 32, 0);
            for (int page = 0; page < 32; page++) {
                Checks.due("write to read-only page " + page, store.write(space, page, 99), -4);
                Checks.due("write of what it holds to read-only page " + page, store.write(space, page, page + 1), -4);
                Checks.due("read of it", store.read(space, page), page + 1);
            }
        }
    }

    private static void writeOtherwise() {
        Checks.sentence("Promise 11", "otherwise 0");
        for (int space = 0; space < 2; space++) {
            PageRangeStore store = Stores.full(48, space);
            for (int page = 0; page < 32; page++) {
                Checks.due("write to " + page + " when full", store.write(space, page, 10 * page), 0);
                Checks.page("after write", store, space, page, 1, 10 * page);
            }
            Checks.due("write of the same value", store.write(space, 31, 310), 0);
            Checks.due("sum of the other space", store.sum(1 - space), 0);
            store.protect(space, 31, 1, 0);
            store.protect(space, 31, 1, 1);
            Checks.due("write to a page made writable again", store.write(space, 31, -1), 0);
            Checks.due("read of it", store.read(space, 31), -1);
        }
    }

    private static void touchInOtherSpaces() {
        Checks.sentence("Promise 12", "-1 if space is not 0 or 1");
        PageRangeStore store = new PageRangeStore(48);
        for (int space : Checks.BAD_SPACES) {
            Checks.due("touch(" + space + ", 0, 5)", store.touch(space, 0, 5), -1);
            Checks.due("touch(" + space + ", 31, 5)", store.touch(space, 31, 5), -1);
        }
        Checks.due("used() after it", store.used(), 0);
    }

    private static void touchOfOtherPages() {
        Checks.sentence("Promise 12", "-2 if page is not in 0 .. 31");
        PageRangeStore store = new PageRangeStore(48);
        for (int page : Checks.BAD_PAGES) {
            Checks.due("touch(0, " + page + ", 5)", store.touch(0, page, 5), -2);
            Checks.due("touch(1, " + page + ", 5)", store.touch(1, page, 5), -2);
        }
        Checks.due("used() after it", store.used(), 0);
    }

    private static void touchWithAllFramesUsed() {
        Checks.sentence("Promise 12", "-3 if it is not mapped and frames() pages are mapped");
        for (int frames = 8; frames <= 48; frames += 8) {
            for (int space = 0; space < 2; space++) {
                PageRangeStore store = Stores.full(frames, space);
                Checks.due("touch of a page not mapped when full", store.touch(1 - space, 31, 5), -3);
                Checks.due("touch of a page not mapped when full", store.touch(1 - space, 30, 5), -3);
                Checks.noPage("after it", store, 1 - space, 31);
                Checks.due("touch of a mapped page when full", store.touch(space, 0, 6), 0);
                Checks.page("after it", store, space, 0, 1, 6);
                store.protect(space, 0, 1, 0);
                Checks.due("touch of a read-only page when full", store.touch(space, 0, 7), -4);
                store.unmap(space, 1, 1);
                Checks.due("touch that takes the last frame", store.touch(1 - space, 31, 8), 1);
                Checks.due("touch of the page just taken away", store.touch(space, 1, 9), -3);
                Checks.due("used() at last", store.used(), frames);
            }
        }
    }

    private static void touchOfReadOnlyPages() {
        Checks.sentence("Promise 12", "-4 if it is mapped and read-only");
        for (int space = 0; space < 2; space++) {
            PageRangeStore store = Stores.fullSpace(space);
            store.protect(space, 0, 32, 0);
            for (int page = 0; page < 32; page++) {
                Checks.due("touch of read-only page " + page, store.touch(space, page, 99), -4);
                Checks.page("after it", store, space, page, 0, page + 1);
            }
            store.unmap(space, 0, 1);
            Checks.due("touch of a page that was read-only and is taken away", store.touch(space, 0, 99), 1);
            Checks.page("after it", store, space, 0, 1, 99);
        }
    }

    private static void touchOtherwise() {
        Checks.sentence("Promise 12", "otherwise 1 if it was mapped by this call, else 0");
        for (int space = 0; space < 2; space++) {
            PageRangeStore store = new PageRangeStore(32);
            for (int page = 0; page < 32; page++) {
                Checks.due("touch of new page " + page, store.touch(space, page, 5), 1);
                Checks.page("after it", store, space, page, 1, 5);
                Checks.due("touch of it again", store.touch(space, page, 6), 0);
                Checks.page("after it", store, space, page, 1, 6);
                Checks.due("used() after it", store.used(), page + 1);
            }
            Checks.due("mapped in the other space", store.mappedIn(1 - space), 0);
        }
    }

    private static void sumWraps() {
        Checks.sentence("Promise 17", "(wrapping like an int)");
        for (int space = 0; space < 2; space++) {
            PageRangeStore store = new PageRangeStore(32);
            int want = 0;
            for (int page = 0; page < 32; page++) {
                store.touch(space, page, MOST);
                want += MOST;
                Checks.due("sum of " + (page + 1) + " times the greatest int", store.sum(space), want);
            }
            Checks.due("sum of 32 times the greatest int", store.sum(space), -32);
            for (int page = 0; page < 32; page++) {
                store.write(space, page, LEAST);
            }
            Checks.due("sum of 32 times the least int", store.sum(space), 0);
            store.unmap(space, 0, 1);
            Checks.due("sum of 31 times the least int", store.sum(space), LEAST);
            store.write(space, 1, -1);
            Checks.due("sum of 30 times the least int and -1", store.sum(space), -1);
            store.unmap(space, 2, 1);
            Checks.due("sum of 29 times the least int and -1", store.sum(space), MOST);
        }
    }

    private static void sumOfNoneAndAll() {
        Checks.sentence("Promise 17", "The sum of the contents of all mapped pages of the space");
        for (int space = 0; space < 2; space++) {
            PageRangeStore store = Stores.fullSpace(space);
            Checks.due("sum of all pages", store.sum(space), 32 * 33 / 2);
            Checks.due("sum of an empty space", store.sum(1 - space), 0);
            store.protect(space, 0, 32, 0);
            Checks.due("sum of read-only pages", store.sum(space), 32 * 33 / 2);
            store.unmap(space, 1, 30);
            Checks.due("sum of the first and the last page", store.sum(space), 1 + 32);
            store.unmap(space, 0, 32);
            Checks.due("sum of none", store.sum(space), 0);
        }
    }

    private static void sumOfOtherSpaces() {
        Checks.sentence("Promise 17", "0 if space is not 0 or 1");
        PageRangeStore store = Stores.full(48, 0);
        store.stamp(0, 32, 100);
        store.stamp(1, 32, 200);
        for (int space : Checks.BAD_SPACES) {
            Checks.due("sum(" + space + ")", store.sum(space), 0);
        }
    }

    private static void nextMappedFromThePageOn() {
        Checks.sentence("Promise 18", "The least number of a page of the space, from page on, that is mapped");
        for (int space = 0; space < 2; space++) {
            for (int mapped = 0; mapped < 32; mapped++) {
                PageRangeStore store = new PageRangeStore(8);
                store.touch(space, mapped, 0);
                store.touch(space, 31, 0);
                for (int page = 0; page < 32; page++) {
                    int want = page <= mapped ? mapped : 31;
                    Checks.due("nextMapped from " + page + " with " + mapped + " and 31", store.nextMapped(space, page), want);
                }
            }
            PageRangeStore full = Stores.fullSpace(space);
            for (int page = 0; page < 32; page++) {
                Checks.due("nextMapped from " + page + " with all mapped", full.nextMapped(space, page), page);
            }
        }
    }

    private static void nextMappedInOtherSpaces() {
        Checks.sentence("Promise 18", "-1 if space is not 0 or 1");
        PageRangeStore store = Stores.full(48, 0);
        for (int space : Checks.BAD_SPACES) {
            Checks.due("nextMapped(" + space + ", 0)", store.nextMapped(space, 0), -1);
            Checks.due("nextMapped(" + space + ", 31)", store.nextMapped(space, 31), -1);
        }
    }

    private static void nextMappedOfOtherPages() {
        Checks.sentence("Promise 18", "-2 if page is not in 0 .. 31");
        PageRangeStore store = Stores.full(48, 0);
        for (int page : Checks.BAD_PAGES) {
            Checks.due("nextMapped(0, " + page + ")", store.nextMapped(0, page), -2);
            Checks.due("nextMapped(1, " + page + ")", store.nextMapped(1, page), -2);
        }
    }

    private static void nextMappedWithNone() {
        Checks.sentence("Promise 18", "-3 if there is none");
        for (int space = 0; space < 2; space++) {
            PageRangeStore store = Stores.fullSpace(1 - space);
            for (int page = 0; page < 32; page++) {
                Checks.due("nextMapped from " + page + " in an empty space", store.nextMapped(space, page), -3);
            }
            store.touch(space, 30, 0);
            Checks.due("nextMapped from the only page", store.nextMapped(space, 30), 30);
            Checks.due("nextMapped behind the only page", store.nextMapped(space, 31), -3);
            store.unmap(space, 30, 1);
            Checks.due("nextMapped from the page taken away", store.nextMapped(space, 30), -3);
        }
    }
}
