/** The boundary cases that promises 5, 6, 7 and 13 name: map, unmap, protect, stamp. */
public final class RangesEdgesTest {
    private static final int LEAST = Integer.MIN_VALUE;
    private static final int MOST = Integer.MAX_VALUE;

    public static void main(String[] args) {
        mapLeavesTheOthersAsTheyAre();
        mapInOtherSpaces();
        mapOfBadRanges();
        mapOfMoreThanFramesPages();
        mapCountsOnlyPagesNotMapped();
        mapAnswersFromNoneToAll();
        unmapLosesContents();
        unmapInOtherSpaces();
        unmapOfBadRanges();
        unmapAnswersFromNoneToAll();
        protectWithAnyFlag();
        protectInOtherSpaces();
        protectOfBadRanges();
        protectAnswersFromNoneToAll();
        stampWrapsAround();
        stampCountsOnlyMappedPages();
        stampOfReadOnlyPages();
        stampInOtherSpaces();
        stampOfBadRanges();
        stampAnswersFromNoneToAll();
        stampTakesTheRangeApart();
        stampOfNegativeRanges();
        Checks.finish();
    }

    private static void mapLeavesTheOthersAsTheyAre() {
        Checks.sentence("Promise 5", "the others stay as they are");
        PageRangeStore store = new PageRangeStore(48);
        store.touch(0, 0, 11);
        store.touch(0, 31, 22);
        store.protect(0, 31, 1, 0);
        Checks.due("map of all with both ends mapped", store.map(0, 0, 32), 30);
        Checks.page("mapped before, writable", store, 0, 0, 1, 11);
        Checks.page("mapped before, read-only", store, 0, 31, 0, 22);
        Checks.page("mapped now", store, 0, 1, 1, 0);
        Checks.page("mapped now", store, 0, 30, 1, 0);
        Checks.due("map of all once more", store.map(0, 0, 32), 0);
        Checks.page("mapped before, writable", store, 0, 0, 1, 11);
        Checks.page("mapped before, read-only", store, 0, 31, 0, 22);
    }

    private static void mapInOtherSpaces() {
        Checks.sentence("Promise 5", "-1 if space is not 0 or 1");
        PageRangeStore store = new PageRangeStore(48);
        for (int space : Checks.BAD_SPACES) {
            Checks.due("map(" + space + ", 0, 1)", store.map(space, 0, 1), -1);
            Checks.due("map(" + space + ", 0, 32)", store.map(space, 0, 32), -1);
        }
        Checks.due("used() after it", store.used(), 0);
    }

    private static void mapOfBadRanges() {
        Checks.sentence("Promise 5", "-2 if the range is not good");
        PageRangeStore store = new PageRangeStore(48);
        for (int[] range : Checks.BAD_RANGES) {
            String told = ", " + range[0] + ", " + range[1] + ")";
            Checks.due("map(0" + told, store.map(0, range[0], range[1]), -2);
            Checks.due("map(1" + told, store.map(1, range[0], range[1]), -2);
        }
        Checks.due("used() after it", store.used(), 0);
    }

    private static void mapOfMoreThanFramesPages() {
        Checks.sentence("Promise 5", "-3 if more than frames() pages would be mapped then");
        for (int frames = 8; frames <= 48; frames += 8) {
            for (int before = Math.max(0, frames - 31); before <= Math.min(frames, 32); before++) {
                PageRangeStore store = new PageRangeStore(frames);
                if (before > 0) {
                    store.map(0, 0, before);
                }
                int left = frames - before;
                String told = left + " pages with " + left + " of " + frames + " frames left";
                Checks.due("map of one more than " + told, store.map(1, 0, left + 1), -3);
                Checks.due("used() after it", store.used(), before);
                if (left > 0) {
                    Checks.due("map of " + told, store.map(1, 0, left), left);
                }
                Checks.due("used() after it", store.used(), frames);
            }
        }
    }

    private static void mapCountsOnlyPagesNotMapped() {
        Checks.sentence("Promise 5", "-3 if more than frames() pages would be mapped then");
        for (int frames = 8; frames <= 32; frames += 8) {
            for (int space = 0; space < 2; space++) {
                PageRangeStore store = Stores.full(frames, space);
                Checks.due("map of all that is mapped when full", store.map(space, 0, frames), 0);
                Checks.due("map of one mapped page when full", store.map(space, frames - 1, 1), 0);
                Checks.due("map of one page not mapped when full", store.map(1 - space, 0, 1), -3);
                store.unmap(space, 3, 1);
                Checks.due("map of all with a gap of one", store.map(space, 0, frames), 1);
                store.unmap(space, 3, 1);
                store.touch(1 - space, 9, 5);
                Checks.due("map of the gap when full again", store.map(space, 0, frames), -3);
                Checks.due("mapped of the gap", store.mapped(space, 3), 0);
            }
        }
    }

    private static void mapAnswersFromNoneToAll() {
        Checks.sentence("Promise 5", "otherwise answers how many pages were mapped by this call");
        for (int before = 0; before <= 32; before++) {
            PageRangeStore store = new PageRangeStore(48);
            for (int i = 0; i < before; i++) {
                store.touch(1, i * 5 % 32, 1);
            }
            Checks.due("map of all with " + before + " mapped", store.map(1, 0, 32), 32 - before);
            Checks.due("used() after it", store.used(), 32);
        }
    }

    private static void unmapLosesContents() {
        Checks.sentence("Promise 6", "their contents are lost");
        for (int space = 0; space < 2; space++) {
            PageRangeStore store = Stores.fullSpace(space);
            store.protect(space, 0, 32, 0);
            store.duplicate(space, 9);
            store.unmap(space, 0, 32);
            Checks.due("sum after unmap of all", store.sum(space), 0);
            Checks.due("stamp after unmap of all", store.stamp(space, 32, 5), 0);
            Checks.due("protect after unmap of all", store.protect(space, 0, 32, 1), 0);
            Checks.due("nextMapped after unmap of all", store.nextMapped(space, 0), -3);
            Checks.noPage("after unmap", store, space, 0);
            Checks.noPage("after unmap", store, space, 31);
            Checks.page("a copy of it", store, 1 - space, 9, 0, 10);
            store.map(space, 0, 1);
            Checks.page("mapped again by map", store, space, 0, 1, 0);
            store.touch(space, 31, 7);
            Checks.page("mapped again by touch", store, space, 31, 1, 7);
            store.exchange(5);
            Checks.noPage("exchanged with one not mapped", store, 1 - space, 5);
            store.map(1 - space, 5, 1);
            Checks.page("mapped after an exchange of lost pages", store, 1 - space, 5, 1, 0);
            Checks.due("sum at last", store.sum(space), 7);
        }
    }

    private static void unmapInOtherSpaces() {
        Checks.sentence("Promise 6", "-1 if space is not 0 or 1");
        PageRangeStore store = Stores.full(48, 0);
        for (int space : Checks.BAD_SPACES) {
            Checks.due("unmap(" + space + ", 0, 1)", store.unmap(space, 0, 1), -1);
            Checks.due("unmap(" + space + ", 0, 32)", store.unmap(space, 0, 32), -1);
        }
        Checks.due("used() after it", store.used(), 48);
    }

    private static void unmapOfBadRanges() {
        Checks.sentence("Promise 6", "-2 if the range is not good");
        PageRangeStore store = Stores.full(48, 0);
        for (int[] range : Checks.BAD_RANGES) {
            String told = ", " + range[0] + ", " + range[1] + ")";
            Checks.due("unmap(0" + told, store.unmap(0, range[0], range[1]), -2);
            Checks.due("unmap(1" + told, store.unmap(1, range[0], range[1]), -2);
        }
        Checks.due("used() after it", store.used(), 48);
    }

    private static void unmapAnswersFromNoneToAll() {
        Checks.sentence("Promise 6", "otherwise answers how many were taken away");
        for (int before = 0; before <= 32; before++) {
            PageRangeStore store = new PageRangeStore(48);
            store.map(0, 0, 16);
            for (int i = 0; i < before; i++) {
                store.touch(1, i * 5 % 32, 1);
            }
            Checks.due("unmap of all with " + before + " mapped", store.unmap(1, 0, 32), before);
            Checks.due("unmap of all with none mapped", store.unmap(1, 0, 32), 0);
            Checks.due("used() after it", store.used(), 16);
        }
    }

    private static void protectWithAnyFlag() {
        Checks.sentence("Promise 7", "writable (flag not 0) or read-only (flag 0)");
        PageRangeStore store = new PageRangeStore(8);
        store.map(0, 0, 2);
        for (int flag : Checks.ANY_INTS) {
            int want = flag != 0 ? 1 : 0;
            store.protect(0, 0, 1, 0);
            store.protect(0, 1, 1, 1);
            Checks.due("protect of one each with " + flag, store.protect(0, 0, 2, flag), 1);
            Checks.due("writable(0, 0) after it", store.writable(0, 0), want);
            Checks.due("writable(0, 1) after it", store.writable(0, 1), want);
            Checks.due("protect with " + flag + " again", store.protect(0, 0, 2, flag), 0);
        }
    }

    private static void protectInOtherSpaces() {
        Checks.sentence("Promise 7", "-1 if space is not 0 or 1");
        PageRangeStore store = Stores.full(48, 0);
        for (int space : Checks.BAD_SPACES) {
            Checks.due("protect(" + space + ", 0, 1, 0)", store.protect(space, 0, 1, 0), -1);
            Checks.due("protect(" + space + ", 0, 32, 0)", store.protect(space, 0, 32, 0), -1);
        }
        Checks.due("read-only pages of space 0 after it", store.protect(0, 0, 32, 1), 0);
        Checks.due("read-only pages of space 1 after it", store.protect(1, 0, 32, 1), 0);
    }

    private static void protectOfBadRanges() {
        Checks.sentence("Promise 7", "-2 if the range is not good");
        PageRangeStore store = Stores.full(48, 0);
        for (int[] range : Checks.BAD_RANGES) {
            String told = ", " + range[0] + ", " + range[1] + ", 0)";
            Checks.due("protect(0" + told, store.protect(0, range[0], range[1], 0), -2);
            Checks.due("protect(1" + told, store.protect(1, range[0], range[1], 0), -2);
        }
        Checks.due("read-only pages of space 0 after it", store.protect(0, 0, 32, 1), 0);
        Checks.due("read-only pages of space 1 after it", store.protect(1, 0, 32, 1), 0);
    }

    private static void protectAnswersFromNoneToAll() {
        Checks.sentence("Promise 7", "otherwise answers how many mapped pages of the range were not so before");
        for (int before = 0; before <= 32; before++) {
            PageRangeStore store = new PageRangeStore(48);
            for (int i = 0; i < before; i++) {
                store.touch(0, i * 5 % 32, 1);
            }
            Checks.due("protect to writable of new pages", store.protect(0, 0, 32, 1), 0);
            Checks.due("protect to read-only of " + before, store.protect(0, 0, 32, 0), before);
            Checks.due("protect to read-only again", store.protect(0, 0, 32, 0), 0);
            Checks.due("protect to writable of " + before, store.protect(0, 0, 32, 1), before);
            store.map(0, 0, 32);
            Checks.due("protect to read-only of all", store.protect(0, 0, 32, 0), 32);
        }
    }

    private static void stampWrapsAround() {
        Checks.sentence("Promise 13", "All mapped pages of the range get the contents value, value + 1, value + 2, ..");
        PageRangeStore store = Stores.fullSpace(1);
        Checks.due("stamp from 16 below the greatest int", store.stamp(1, 32, MOST - 15), 32);
        for (int page = 0; page < 16; page++) {
            Checks.due("read(1, " + page + ")", store.read(1, page), MOST - 15 + page);
            Checks.due("read(1, " + (page + 16) + ")", store.read(1, page + 16), LEAST + page);
        }
        Checks.due("stamp from the least int", store.stamp(1, 2, LEAST), 2);
        Checks.due("read(1, 0)", store.read(1, 0), LEAST);
        Checks.due("read(1, 1)", store.read(1, 1), LEAST + 1);
        Checks.due("stamp from -1", store.stamp(1, 64 * 29 + 3, -1), 3);
        Checks.due("read(1, 29)", store.read(1, 29), -1);
        Checks.due("read(1, 30)", store.read(1, 30), 0);
        Checks.due("read(1, 31)", store.read(1, 31), 1);
    }

    private static void stampCountsOnlyMappedPages() {
        Checks.sentence("Promise 13", "(only mapped pages are counted)");
        PageRangeStore store = new PageRangeStore(8);
        store.touch(0, 0, 0);
        store.touch(0, 31, 0);
        Checks.due("stamp with both ends mapped", store.stamp(0, 32, 50), 2);
        Checks.page("the first", store, 0, 0, 1, 50);
        Checks.page("the last", store, 0, 31, 1, 51);
        Checks.due("stamp with the last mapped", store.stamp(0, 64 + 31, 60), 1);
        Checks.page("the first", store, 0, 0, 1, 50);
        Checks.page("the last", store, 0, 31, 1, 60);
        Checks.due("used() after it", store.used(), 2);
        store.map(0, 1, 1);
        Checks.page("mapped after stamp", store, 0, 1, 1, 0);
    }

    private static void stampOfReadOnlyPages() {
        Checks.sentence("Promise 13", "read-only ones too");
        PageRangeStore store = Stores.fullSpace(0);
        store.protect(0, 0, 32, 0);
        Checks.due("stamp of read-only pages alone", store.stamp(0, 32, 70), 32);
        for (int page = 0; page < 32; page++) {
            Checks.page("after stamp", store, 0, page, 0, 70 + page);
        }
    }

    private static void stampInOtherSpaces() {
        Checks.sentence("Promise 13", "-1 if space is not 0 or 1");
        PageRangeStore store = Stores.full(48, 0);
        for (int space : Checks.BAD_SPACES) {
            Checks.due("stamp(" + space + ", 1, 5)", store.stamp(space, 1, 5), -1);
            Checks.due("stamp(" + space + ", 32, 5)", store.stamp(space, 32, 5), -1);
        }
        Checks.due("sum(0) after it", store.sum(0), 0);
        Checks.due("sum(1) after it", store.sum(1), 0);
    }

    private static void stampOfBadRanges() {
        Checks.sentence("Promise 13", "-2 if the range is not good");
        PageRangeStore store = Stores.full(48, 0);
        for (int range : Checks.BAD_STAMP_RANGES) {
            Checks.due("stamp(0, " + range + ", 5)", store.stamp(0, range, 5), -2);
            Checks.due("stamp(1, " + range + ", 5)", store.stamp(1, range, 5), -2);
        }
        Checks.due("sum(0) after it", store.sum(0), 0);
        Checks.due("sum(1) after it", store.sum(1), 0);
    }

    private static void stampAnswersFromNoneToAll() {
        Checks.sentence("Promise 13", "otherwise answers how many pages got a content");
        for (int before = 0; before <= 32; before++) {
            PageRangeStore store = new PageRangeStore(48);
            for (int i = 0; i < before; i++) {
                store.touch(0, i * 5 % 32, 1);
            }
            Checks.due("stamp of all with " + before + " mapped", store.stamp(0, 32, 1), before);
            Checks.due("sum after it", store.sum(0), before * (before + 1) / 2);
        }
    }

    private static void stampTakesTheRangeApart() {
        Checks.sentence("Promise 13", "range is 64 * page + count: the range (range / 64, range % 64) for range >= 0");
        int[][] ranges = {{0, 1}, {0, 31}, {0, 32}, {1, 1}, {1, 31}, {15, 17}, {16, 16}, {30, 1}, {30, 2}, {31, 1}};
        for (int[] range : ranges) {
            int page = range[0];
            int count = range[1];
            PageRangeStore store = new PageRangeStore(48);
            store.map(1, 0, 32);
            Checks.due("stamp(1, 64 * " + page + " + " + count + ", 500)", store.stamp(1, 64 * page + count, 500), count);
            for (int at = 0; at < 32; at++) {
                boolean isIn = at >= page && at < page + count;
                Checks.due("read(1, " + at + ") after it", store.read(1, at), isIn ? 500 + at - page : 0);
            }
        }
    }

    private static void stampOfNegativeRanges() {
        Checks.sentence("Promise 13", "a negative range is not good");
        PageRangeStore store = Stores.full(48, 0);
        for (int range = -129; range < 0; range++) {
            Checks.due("stamp(0, " + range + ", 5)", store.stamp(0, range, 5), -2);
            Checks.due("stamp(1, " + range + ", 5)", store.stamp(1, range, 5), -2);
        }
        for (int low = 0; low < 64; low++) {
            Checks.due("stamp(0, the least int + " + low + ", 5)", store.stamp(0, LEAST + low, 5), -2);
            Checks.due("stamp(1, -65536 + " + low + ", 5)", store.stamp(1, -65536 + low, 5), -2);
        }
        Checks.due("sum(0) after it", store.sum(0), 0);
        Checks.due("sum(1) after it", store.sum(1), 0);
    }
}
