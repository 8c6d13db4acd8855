/** The boundary cases that promises 1 to 4 name: a new object, frames, used, mappedIn. */
public final class CountsEdgesTest {
    public static void main(String[] args) {
        framesBelow8Become8();
        framesAbove48Become48();
        framesAreTheGreatestMultipleOf8NotAbove();
        framesNeverChange();
        usedFromEmptyToFull();
        usedWithBothSpaces();
        mappedInFromEmptyToFull();
        mappedInOfOtherSpaces();
        Checks.finish();
    }

    /** The number asked for, the number told, and the pages that can be mapped must agree. */
    private static void framesAre(int asked, int want) {
        PageRangeStore store = new PageRangeStore(asked);
        Checks.due("frames() made with " + asked, store.frames(), want);
        int mapped = 0;
        for (int place = 0; place < 64; place++) {
            mapped += store.touch(place % 2, place / 2, 1) == 1 ? 1 : 0;
        }
        Checks.due("pages that can be mapped, made with " + asked, mapped, want);
    }

    private static void framesBelow8Become8() {
        Checks.sentence("Promise 1", "frames: below 8 becomes 8");
        for (int asked = -100; asked < 8; asked++) {
            framesAre(asked, 8);
        }
        framesAre(Integer.MIN_VALUE, 8);
        framesAre(Integer.MIN_VALUE + 1, 8);
        framesAre(-65536 + 16, 8);
    }

    private static void framesAbove48Become48() {
        Checks.sentence("Promise 1", "above 48 becomes 48");
        for (int asked = 49; asked < 300; asked++) {
            framesAre(asked, 48);
        }
        framesAre(65536 + 16, 48);
        framesAre(Integer.MAX_VALUE - 1, 48);
        framesAre(Integer.MAX_VALUE, 48);
    }

    private static void framesAreTheGreatestMultipleOf8NotAbove() {
        Checks.sentence("Promise 1", "then the greatest multiple of 8 that is not above it is taken");
        for (int multiple = 8; multiple <= 40; multiple += 8) {
            for (int over = 0; over < 8; over++) {
                framesAre(multiple + over, multiple);
            }
        }
        framesAre(48, 48);
    }

    private static void framesNeverChange() {
        Checks.sentence("Promise 2", "The number of frames.");
        for (int frames = 8; frames <= 48; frames += 8) {
            PageRangeStore store = Stores.full(frames, 0);
            Checks.due("frames() when full", store.frames(), frames);
            store.touch(1, 31, 1);
            Checks.due("frames() after a refused touch", store.frames(), frames);
            store.unmap(0, 0, 32);
            store.unmap(1, 0, 32);
            Checks.due("frames() when empty again", store.frames(), frames);
        }
    }

    private static void usedFromEmptyToFull() {
        Checks.sentence("Promise 3", "How many pages are mapped");
        for (int frames = 8; frames <= 48; frames += 8) {
            PageRangeStore store = new PageRangeStore(frames);
            for (int page = 0; page < frames; page++) {
                Checks.due("used() with " + page + " pages", store.used(), page);
                store.touch(page / 32, page % 32, 0);
            }
            Checks.due("used() when full", store.used(), frames);
            store.touch(1, 31, 0);
            Checks.due("used() after a refused touch", store.used(), frames);
            store.unmap(0, 0, 32);
            store.unmap(1, 0, 32);
            Checks.due("used() when empty again", store.used(), 0);
        }
    }

    private static void usedWithBothSpaces() {
        Checks.sentence("Promise 3", "in both spaces together");
        PageRangeStore store = new PageRangeStore(48);
        store.map(0, 0, 32);
        Checks.due("used() with all of space 0", store.used(), 32);
        store.map(1, 16, 16);
        Checks.due("used() with half of space 1 too", store.used(), 48);
        store.unmap(0, 0, 32);
        Checks.due("used() with half of space 1 alone", store.used(), 16);
        store.duplicate(1, 31);
        Checks.due("used() with the same number in both", store.used(), 17);
    }

    private static void mappedInFromEmptyToFull() {
        Checks.sentence("Promise 4", "How many pages of the space are mapped");
        for (int space = 0; space < 2; space++) {
            PageRangeStore store = new PageRangeStore(48);
            Checks.due("mappedIn(" + space + ") when empty", store.mappedIn(space), 0);
            store.map(space, 31, 1);
            Checks.due("mappedIn(" + space + ") with the last page", store.mappedIn(space), 1);
            store.map(space, 0, 1);
            Checks.due("mappedIn(" + space + ") with both ends", store.mappedIn(space), 2);
            store.map(space, 0, 32);
            Checks.due("mappedIn(" + space + ") when full", store.mappedIn(space), 32);
            Checks.due("mappedIn of the other space", store.mappedIn(1 - space), 0);
            store.map(1 - space, 0, 16);
            Checks.due("mappedIn(" + space + ") with the other one mapped too", store.mappedIn(space), 32);
            Checks.due("mappedIn of the other space", store.mappedIn(1 - space), 16);
        }
    }

    private static void mappedInOfOtherSpaces() {
        Checks.sentence("Promise 4", "-1 if space is not 0 or 1");
        PageRangeStore empty = new PageRangeStore(8);
        PageRangeStore full = Stores.full(48, 0);
        for (int space : Checks.BAD_SPACES) {
            Checks.due("mappedIn(" + space + ") when empty", empty.mappedIn(space), -1);
            Checks.due("mappedIn(" + space + ") when full", full.mappedIn(space), -1);
        }
    }
}
