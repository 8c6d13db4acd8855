/** The boundary cases that "What it is" and "Terms" name, but for refused calls (RefusalsTest, OrderTest). */
public final class TermsEdgesTest {
    public static void main(String[] args) {
        the512thCallIsAnswered();
        framesGivenBackCanBeTakenFor512Calls();
        spacesAndPagesHaveEnds();
        noPageIsMappedAtFirst();
        aContentIsAnyInt();
        noMoreThanFramesPagesAreMapped();
        aFrameGivenBackServesOnePageMore();
        anyPagesMayBeMapped();
        mapAndGoodRanges();
        unmapAndGoodRanges();
        protectAndGoodRanges();
        stampAndGoodRanges();
        otherCountsAreNotGood();
        Checks.finish();
    }

    /** A store at its 511th call: pages 4 .. 6 of space 0 hold 40 .. 42 (5 read-only), page 31 of space 1 holds 9. */
    private static PageRangeStore after511Calls() {
        PageRangeStore store = new PageRangeStore(8);
        for (int round = 0; round < 100; round++) {
            int page = round % 25;
            store.map(0, page, 8);
            store.stamp(0, 64 * page + 8, round);
            store.exchange(page);
            store.unmap(0, 0, 32);
            store.unmap(1, 0, 32);
        }
        store.map(0, 4, 3);
        store.stamp(0, 64 * 4 + 3, 40);
        store.protect(0, 5, 1, 0);
        store.touch(1, 31, 9);
        for (int call = 505; call <= 511; call++) {
            Checks.due("used() as call " + call, store.used(), 4);
        }
        return store;
    }

    private static void the512thCallIsAnswered() {
        Checks.sentence("What it is", "An object is used for at most 512 calls after it has been made");
        Checks.due("frames() as call 512", after511Calls().frames(), 8);
        Checks.due("used() as call 512", after511Calls().used(), 4);
        Checks.due("mappedIn(0) as call 512", after511Calls().mappedIn(0), 3);
        Checks.due("map(0, 0, 7) as call 512", after511Calls().map(0, 0, 7), 4);
        Checks.due("map(0, 0, 8) as call 512", after511Calls().map(0, 0, 8), -3);
        Checks.due("unmap(0, 0, 32) as call 512", after511Calls().unmap(0, 0, 32), 3);
        Checks.due("protect(0, 0, 32, 0) as call 512", after511Calls().protect(0, 0, 32, 0), 2);
        Checks.due("mapped(1, 31) as call 512", after511Calls().mapped(1, 31), 1);
        Checks.due("writable(0, 5) as call 512", after511Calls().writable(0, 5), 0);
        Checks.due("read(0, 5) as call 512", after511Calls().read(0, 5), 41);
        Checks.due("write(0, 4, 1) as call 512", after511Calls().write(0, 4, 1), 0);
        Checks.due("write(0, 5, 1) as call 512", after511Calls().write(0, 5, 1), -4);
        Checks.due("touch(1, 0, 1) as call 512", after511Calls().touch(1, 0, 1), 1);
        Checks.due("stamp(0, 32, 1) as call 512", after511Calls().stamp(0, 32, 1), 3);
        Checks.due("remap(0, 5, 0) as call 512", after511Calls().remap(0, 5, 0), 0);
        Checks.due("duplicate(1, 31) as call 512", after511Calls().duplicate(1, 31), 0);
        Checks.due("exchange(31) as call 512", after511Calls().exchange(31), 0);
        Checks.due("sum(0) as call 512", after511Calls().sum(0), 40 + 41 + 42);
        Checks.due("nextMapped(0, 0) as call 512", after511Calls().nextMapped(0, 0), 4);
    }

    private static void framesGivenBackCanBeTakenFor512Calls() {
        Checks.sentence("What it is", "An object is used for at most 512 calls after it has been made");
        PageRangeStore store = new PageRangeStore(48);
        for (int round = 0; round < 128; round++) {
            int space = round % 2;
            Checks.due("map of a space in round " + round, store.map(space, 0, 32), 32);
            Checks.due("map of half the other one in round " + round, store.map(1 - space, 16, 16), 16);
            Checks.due("unmap of the space in round " + round, store.unmap(space, 0, 32), 32);
            Checks.due("unmap of the other one in round " + round, store.unmap(1 - space, 0, 32), 16);
        }
    }

    private static void spacesAndPagesHaveEnds() {
        Checks.sentence("Terms", "There are two SPACES, 0 and 1, each with 32 PAGES, 0 .. 31.");
        PageRangeStore store = new PageRangeStore(8);
        store.touch(0, 0, 1);
        store.touch(0, 31, 2);
        store.touch(1, 0, 3);
        store.touch(1, 31, 4);
        Checks.page("the first of space 0", store, 0, 0, 1, 1);
        Checks.page("the last of space 0", store, 0, 31, 1, 2);
        Checks.page("the first of space 1", store, 1, 0, 1, 3);
        Checks.page("the last of space 1", store, 1, 31, 1, 4);
        Checks.due("touch(0, 32), which is not page 0 of space 1", store.touch(0, 32, 9), -2);
        Checks.due("touch(1, -1), which is not page 31 of space 0", store.touch(1, -1, 9), -2);
        Checks.due("touch(-1, 32), which is not page 0 of space 0", store.touch(-1, 32, 9), -1);
        Checks.due("touch(2, -1), which is not page 31 of space 1", store.touch(2, -1, 9), -1);
        Checks.due("unmap(0, 31, 2), which does not reach into space 1", store.unmap(0, 31, 2), -2);
        Checks.due("unmap(1, -1, 2), which does not reach into space 0", store.unmap(1, -1, 2), -2);
        Checks.due("sum(0)", store.sum(0), 1 + 2);
        Checks.due("sum(1)", store.sum(1), 3 + 4);
    }

    private static void noPageIsMappedAtFirst() {
        Checks.sentence("Terms", "A page is MAPPED or not; none is at first.");
        for (int frames = 8; frames <= 48; frames += 8) {
            PageRangeStore store = new PageRangeStore(frames);
            for (int space = 0; space < 2; space++) {
                for (int page = 0; page < 32; page++) {
                    Checks.noPage("at first", store, space, page);
                }
                Checks.due("mappedIn(" + space + ") at first", store.mappedIn(space), 0);
                Checks.due("nextMapped(" + space + ", 0) at first", store.nextMapped(space, 0), -3);
                Checks.due("sum(" + space + ") at first", store.sum(space), 0);
            }
            Checks.due("used() at first", store.used(), 0);
        }
    }

    private static void aContentIsAnyInt() {
        Checks.sentence("Terms", "A mapped page has a CONTENT (any int)");
        for (int value : Checks.ANY_INTS) {
            PageRangeStore store = new PageRangeStore(8);
            Checks.due("touch of a new page with " + value, store.touch(0, 0, value), 1);
            Checks.page("after touch", store, 0, 0, 1, value);
            Checks.due("sum of " + value + " alone", store.sum(0), value);
            store.remap(0, 0, 31);
            Checks.page("after remap", store, 0, 31, 1, value);
            store.duplicate(0, 31);
            Checks.page("after duplicate", store, 1, 31, 1, value);
            store.unmap(0, 31, 1);
            store.exchange(31);
            Checks.page("after exchange", store, 0, 31, 1, value);
            store.map(1, 5, 2);
            Checks.due("write of " + value, store.write(1, 5, value), 0);
            Checks.page("after write", store, 1, 5, 1, value);
            Checks.due("touch of a mapped page with " + value, store.touch(1, 6, value), 0);
            Checks.page("after touch", store, 1, 6, 1, value);
            Checks.due("stamp from " + value, store.stamp(1, 64 * 6 + 1, value), 1);
            Checks.page("after stamp", store, 1, 6, 1, value);
        }
    }

    private static void noMoreThanFramesPagesAreMapped() {
        Checks.sentence("Terms", "There are frames for just frames() mapped pages in both spaces together");
        for (int frames = 8; frames <= 48; frames += 8) {
            for (int space = 0; space < 2; space++) {
                PageRangeStore store = Stores.full(frames, space);
                Checks.due("used() when full", store.used(), frames);
                Checks.due("map of one page more", store.map(1 - space, 31, 1), -3);
                Checks.due("touch of one page more", store.touch(1 - space, 31, 1), -3);
                int last = Math.min(frames, 32) - 1;
                Checks.due("duplicate to one page more", store.duplicate(space, last), -5);
                Checks.due("exchange, which needs no more", store.exchange(last), 0);
                Checks.due("remap, which needs no more", store.remap(1 - space, last, 30), 0);
                Checks.due("used() when still full", store.used(), frames);
            }
        }
    }

    private static void aFrameGivenBackServesOnePageMore() {
        Checks.sentence("Terms", "so at most frames() pages are mapped at any time");
        for (int frames = 8; frames <= 48; frames += 8) {
            for (int space = 0; space < 2; space++) {
                int other = 1 - space;
                PageRangeStore store = Stores.full(frames, space);
                store.unmap(space, 0, 1);
                Checks.due("map of two pages with one frame left", store.map(other, 30, 2), -3);
                Checks.due("map of one page with one frame left", store.map(other, 31, 1), 1);
                Checks.due("map of one page with none left", store.map(other, 30, 1), -3);
                store = Stores.full(frames, space);
                store.unmap(space, 0, 1);
                Checks.due("touch with one frame left", store.touch(other, 31, 1), 1);
                Checks.due("touch with none left", store.touch(other, 30, 1), -3);
                store = Stores.full(frames, space);
                store.unmap(space, 0, 1);
                int last = Math.min(frames, 32) - 1;
                Checks.due("duplicate with one frame left", store.duplicate(space, last), 0);
                Checks.due("duplicate with none left", store.duplicate(space, last - 1), -5);
                Checks.due("used() at last", store.used(), frames);
            }
        }
    }

    private static void anyPagesMayBeMapped() {
        Checks.sentence("Terms", "and any pages may be");
        int[] steps = {1, 3, 5, 31, 33, 63};
        for (int frames = 8; frames <= 48; frames += 8) {
            for (int step : steps) {
                for (int start = 0; start < 64; start += 21) {
                    anyPagesMayBeMapped(frames, step, start);
                }
            }
        }
    }

    /** An odd step goes through all 64 pages of the two spaces before it comes back to the start. */
    private static void anyPagesMayBeMapped(int frames, int step, int start) {
        PageRangeStore store = new PageRangeStore(frames);
        for (int i = 0; i < 64; i++) {
            int place = (start + i * step) % 64;
            Checks.due("touch " + i + " of " + frames + " frames", store.touch(place / 32, place % 32, i), i < frames ? 1 : -3);
        }
        for (int i = 0; i < 64; i++) {
            int place = (start + i * step) % 64;
            Checks.due("mapped of " + i, store.mapped(place / 32, place % 32), i < frames ? 1 : 0);
            Checks.due("read of " + i, store.read(place / 32, place % 32), i < frames ? i : 0);
        }
        Checks.due("used()", store.used(), frames);
    }

    private static boolean isGood(int page, int count) {
        return count >= 1 && count <= 32 && page >= 0 && page + count <= 32;
    }

    private static boolean isIn(int at, int page, int count) {
        return isGood(page, count) && at >= page && at < page + count;
    }

    private static void mapAndGoodRanges() {
        Checks.sentence("Terms", "it is GOOD if count >= 1, page >= 0 and page + count <= 32");
        for (int page = -2; page <= 34; page++) {
            for (int count = -2; count <= 34; count++) {
                int space = (page + count) & 1;
                String told = "(" + space + ", " + page + ", " + count + ")";
                PageRangeStore store = new PageRangeStore(32);
                Checks.due("map" + told, store.map(space, page, count), isGood(page, count) ? count : -2);
                for (int at = 0; at < 32; at++) {
                    int want = isIn(at, page, count) ? 1 : 0;
                    Checks.due("mapped of " + at + " after map" + told, store.mapped(space, at), want);
                }
                Checks.due("mapped in the other space after map" + told, store.mappedIn(1 - space), 0);
            }
        }
    }

    private static void unmapAndGoodRanges() {
        Checks.sentence("Terms", "it is GOOD if count >= 1, page >= 0 and page + count <= 32");
        for (int page = -2; page <= 34; page++) {
            for (int count = -2; count <= 34; count++) {
                int space = (page + count) & 1;
                String told = "(" + space + ", " + page + ", " + count + ")";
                PageRangeStore store = Stores.fullSpace(space);
                store.map(1 - space, 0, 8);
                store.map(1 - space, 24, 8);
                Checks.due("unmap" + told, store.unmap(space, page, count), isGood(page, count) ? count : -2);
                for (int at = 0; at < 32; at++) {
                    int want = isIn(at, page, count) ? 0 : 1;
                    Checks.due("mapped of " + at + " after unmap" + told, store.mapped(space, at), want);
                }
                Checks.due("mapped in the other space after unmap" + told, store.mappedIn(1 - space), 16);
            }
        }
    }

    private static void protectAndGoodRanges() {
        Checks.sentence("Terms", "it is GOOD if count >= 1, page >= 0 and page + count <= 32");
        for (int page = -2; page <= 34; page++) {
            for (int count = -2; count <= 34; count++) {
                int space = (page + count) & 1;
                String told = "(" + space + ", " + page + ", " + count + ", 0)";
                PageRangeStore store = Stores.fullSpace(space);
                store.map(1 - space, 0, 8);
                store.map(1 - space, 24, 8);
                Checks.due("protect" + told, store.protect(space, page, count, 0), isGood(page, count) ? count : -2);
                for (int at = 0; at < 32; at++) {
                    int want = isIn(at, page, count) ? 0 : 1;
                    Checks.due("writable of " + at + " after protect" + told, store.writable(space, at), want);
                }
                Checks.due("read-only in the other space after protect" + told, store.protect(1 - space, 0, 32, 1), 0);
            }
        }
    }

    private static void stampAndGoodRanges() {
        Checks.sentence("Terms", "it is GOOD if count >= 1, page >= 0 and page + count <= 32");
        for (int page = 0; page <= 34; page++) {
            for (int count = 0; count < 64; count++) {
                int space = (page + count) & 1;
                int range = 64 * page + count;
                String told = "(" + space + ", " + range + ", 100)";
                PageRangeStore store = Stores.fullSpace(space);
                store.map(1 - space, 0, 8);
                store.map(1 - space, 24, 8);
                Checks.due("stamp" + told, store.stamp(space, range, 100), isGood(page, count) ? count : -2);
                for (int at = 0; at < 32; at++) {
                    int want = isIn(at, page, count) ? 100 + at - page : at + 1;
                    Checks.due("read of " + at + " after stamp" + told, store.read(space, at), want);
                }
                Checks.due("sum in the other space after stamp" + told, store.sum(1 - space), 0);
            }
        }
    }

    private static void otherCountsAreNotGood() {
        Checks.sentence("Terms", "(for counts up to 32; other counts are not good)");
        for (int space = 0; space < 2; space++) {
            for (int[] range : Checks.BAD_RANGES) {
                int page = range[0];
                int count = range[1];
                String told = "(" + space + ", " + page + ", " + count + ")";
                PageRangeStore store = Stores.fullSpace(space);
                Checks.due("unmap" + told, store.unmap(space, page, count), -2);
                Checks.due("protect" + told, store.protect(space, page, count, 0), -2);
                Checks.due("map" + told, store.map(space, page, count), -2);
                Checks.due("map in an empty space" + told, store.map(1 - space, page, count), -2);
                Checks.due("mapped after it", store.mappedIn(space), 32);
                Checks.due("mapped in the other space after it", store.mappedIn(1 - space), 0);
                Checks.due("read-only after it", store.protect(space, 0, 32, 1), 0);
            }
        }
    }
}
