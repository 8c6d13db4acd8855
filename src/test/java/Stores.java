/** Stores in the states that tests begin with. */
final class Stores {
    private Stores() {
    }

    /** All frames used: the first pages of the space, then, beyond its 32, the first of the other one; 2 calls at most. */
    static PageRangeStore full(int frames, int space) {
        PageRangeStore store = new PageRangeStore(frames);
        store.map(space, 0, Math.min(frames, 32));
        if (frames > 32) {
            store.map(1 - space, 0, frames - 32);
        }
        return store;
    }

    /** All 32 pages of the space mapped, with the contents 1 to 32, and 16 frames left; 2 calls. */
    static PageRangeStore fullSpace(int space) {
        PageRangeStore store = new PageRangeStore(48);
        store.map(space, 0, 32);
        store.stamp(space, 32, 1);
        return store;
    }

    /**
     * Eight pages mapped, all with different contents: 0 .. 4 of own (3 and 4
     * read-only), and 0, 30 and 31 of the other space (31 read-only); 7 calls.
     */
    static PageRangeStore mixed(int frames, int own) {
        PageRangeStore store = new PageRangeStore(frames);
        store.map(own, 0, 5);
        store.map(1 - own, 0, 1);
        store.map(1 - own, 30, 2);
        store.stamp(own, 32, 10);
        store.stamp(1 - own, 32, 20);
        store.protect(own, 3, 2, 0);
        store.protect(1 - own, 31, 1, 0);
        return store;
    }
}
