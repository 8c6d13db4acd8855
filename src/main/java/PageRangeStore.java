/**
 * Virtual memory for two address spaces over a small store of frames.
 *
 * Any page may use any frame, so which frame holds a page can't be seen from
 * outside: the frames are only a limit on how many pages are mapped.
 */
public final class PageRangeStore {
    private static final int PAGES = 32;
    /** The pages of space 0, then those of space 1. */
    private static final int SLOTS = 64;

    private static final int LEAST_FRAMES = 8;
    private static final int MOST_FRAMES = 48;
    private static final int FRAMES_STEP = 8;

    /** A packed range is RANGE_BASE * page + count. */
    private static final int RANGE_BASE = 64;

    private static final int ACCEPTED = 0;
    private static final int BAD_SPACE = -1;
    private static final int BAD_PLACE = -2;

    private final int frameLimit;
    private final boolean[] isMapped = new boolean[SLOTS];
    /** Where a slot is not mapped, its writability and content are left-overs that nothing may look at. */
    private final boolean[] isWritable = new boolean[SLOTS];
    private final int[] contents = new int[SLOTS];

    public PageRangeStore(int frames) {
        int limit = frames;
        if (limit < LEAST_FRAMES) {
            limit = LEAST_FRAMES;
        }
        if (limit > MOST_FRAMES) {
            limit = MOST_FRAMES;
        }
        frameLimit = limit - limit % FRAMES_STEP;
    }

    public int frames() {
        return frameLimit;
    }

    public int used() {
        return countMapped(0, SLOTS);
    }

    public int mappedIn(int space) {
        if (!isSpace(space)) {
            return BAD_SPACE;
        }
        int first = slotOf(space, 0);
        return countMapped(first, first + PAGES);
    }

    public int map(int space, int page, int count) {
        int refusal = refusalOfRange(space, page, count);
        if (refusal != ACCEPTED) {
            return refusal;
        }
        int first = slotOf(space, page);
        int end = first + count;
        int missing = count - countMapped(first, end);
        if (missing > freeFrames()) {
            return -3;
        }
        for (int slot = first; slot < end; slot++) {
            if (!isMapped[slot]) {
                fillSlot(slot, true, 0);
            }
        }
        return missing;
    }

    public int unmap(int space, int page, int count) {
        int refusal = refusalOfRange(space, page, count);
        if (refusal != ACCEPTED) {
            return refusal;
        }
        int first = slotOf(space, page);
        int end = first + count;
        int taken = countMapped(first, end);
        for (int slot = first; slot < end; slot++) {
            isMapped[slot] = false;
        }
        return taken;
    }

    public int protect(int space, int page, int count, int flag) {
        int refusal = refusalOfRange(space, page, count);
        if (refusal != ACCEPTED) {
            return refusal;
        }
        boolean wanted = flag != 0;
        int first = slotOf(space, page);
        int end = first + count;
        int changed = 0;
        for (int slot = first; slot < end; slot++) {
            if (isMapped[slot] && isWritable[slot] != wanted) {
                isWritable[slot] = wanted;
                changed++;
            }
        }
        return changed;
    }

    public int mapped(int space, int page) {
        int refusal = refusalOfPage(space, page);
        if (refusal != ACCEPTED) {
            return refusal;
        }
        return isMapped[slotOf(space, page)] ? 1 : 0;
    }

    public int writable(int space, int page) {
        int refusal = refusalOfPage(space, page);
        if (refusal != ACCEPTED) {
            return refusal;
        }
        int slot = slotOf(space, page);
        return isMapped[slot] && isWritable[slot] ? 1 : 0;
    }

    public int read(int space, int page) {
        if (refusalOfPage(space, page) != ACCEPTED) {
            return 0;
        }
        int slot = slotOf(space, page);
        return isMapped[slot] ? contents[slot] : 0;
    }

    public int write(int space, int page, int value) {
        int refusal = refusalOfPage(space, page);
        if (refusal != ACCEPTED) {
            return refusal;
        }
        int slot = slotOf(space, page);
        if (!isMapped[slot]) {
            return -3;
        }
        if (!isWritable[slot]) {
            return -4;
        }
        contents[slot] = value;
        return 0;
    }

    public int touch(int space, int page, int value) {
        int refusal = refusalOfPage(space, page);
        if (refusal != ACCEPTED) {
            return refusal;
        }
        int slot = slotOf(space, page);
        boolean isNew = !isMapped[slot];
        if (isNew && freeFrames() == 0) {
            return -3;
        }
        if (!isNew && !isWritable[slot]) {
            return -4;
        }
        fillSlot(slot, true, value);
        return isNew ? 1 : 0;
    }

    public int stamp(int space, int range, int value) {
        if (!isSpace(space)) {
            return BAD_SPACE;
        }
        int page = range / RANGE_BASE;
        int count = range % RANGE_BASE;
        if (range < 0 || !isGoodRange(page, count)) {
            return BAD_PLACE;
        }
        int first = slotOf(space, page);
        int end = first + count;
        int stamped = 0;
        for (int slot = first; slot < end; slot++) {
            if (isMapped[slot]) {
                contents[slot] = value + stamped;
                stamped++;
            }
        }
        return stamped;
    }

    public int remap(int space, int from, int to) {
        int refusal = refusalOfPage(space, from);
        if (refusal != ACCEPTED) {
            return refusal;
        }
        if (!isPage(to)) {
            return BAD_PLACE;
        }
        int source = slotOf(space, from);
        int target = slotOf(space, to);
        if (!isMapped[source]) {
            return -3;
        }
        if (isMapped[target]) {
            return -4;
        }
        fillSlot(target, isWritable[source], contents[source]);
        isMapped[source] = false;
        return 0;
    }

    public int duplicate(int space, int page) {
        int refusal = refusalOfPage(space, page);
        if (refusal != ACCEPTED) {
            return refusal;
        }
        int source = slotOf(space, page);
        int target = slotOf(1 - space, page);
        if (!isMapped[source]) {
            return -3;
        }
        if (isMapped[target]) {
            return -4;
        }
        if (freeFrames() == 0) {
            return -5;
        }
        fillSlot(target, isWritable[source], contents[source]);
        return 0;
    }

    public int exchange(int page) {
        if (!isPage(page)) {
            return -1;
        }
        int one = slotOf(0, page);
        int other = slotOf(1, page);
        boolean mappedOfOne = isMapped[one];
        boolean writableOfOne = isWritable[one];
        int contentOfOne = contents[one];
        isMapped[one] = isMapped[other];
        isWritable[one] = isWritable[other];
        contents[one] = contents[other];
        isMapped[other] = mappedOfOne;
        isWritable[other] = writableOfOne;
        contents[other] = contentOfOne;
        return 0;
    }

    public int sum(int space) {
        if (!isSpace(space)) {
            return 0;
        }
        int first = slotOf(space, 0);
        int end = first + PAGES;
        int total = 0;
        for (int slot = first; slot < end; slot++) {
            if (isMapped[slot]) {
                total += contents[slot];
            }
        }
        return total;
    }

    public int nextMapped(int space, int page) {
        int refusal = refusalOfPage(space, page);
        if (refusal != ACCEPTED) {
            return refusal;
        }
        for (int next = page; next < PAGES; next++) {
            if (isMapped[slotOf(space, next)]) {
                return next;
            }
        }
        return -3;
    }

    private static boolean isSpace(int space) {
        return space == 0 || space == 1;
    }

    private static boolean isPage(int page) {
        return page >= 0 && page < PAGES;
    }

    private static boolean isGoodRange(int page, int count) {
        // The count is bounded first and then subtracted: page + count could wrap around.
        return count >= 1 && count <= PAGES && page >= 0 && page <= PAGES - count;
    }

    private static int refusalOfPage(int space, int page) {
        if (!isSpace(space)) {
            return BAD_SPACE;
        }
        return isPage(page) ? ACCEPTED : BAD_PLACE;
    }

    private static int refusalOfRange(int space, int page, int count) {
        if (!isSpace(space)) {
            return BAD_SPACE;
        }
        return isGoodRange(page, count) ? ACCEPTED : BAD_PLACE;
    }

    private static int slotOf(int space, int page) {
        return space * PAGES + page;
    }

    private int countMapped(int first, int end) {
        int count = 0;
        for (int slot = first; slot < end; slot++) {
            if (isMapped[slot]) {
                count++;
            }
        }
        return count;
    }

    private int freeFrames() {
        return frameLimit - countMapped(0, SLOTS);
    }

    private void fillSlot(int slot, boolean writability, int content) {
        isMapped[slot] = true;
        isWritable[slot] = writability;
        contents[slot] = content;
    }
}
