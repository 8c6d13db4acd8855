/** Counts and prints the answers that are not as due; each test runs in a JVM of its own. */
final class Checks {
    private static final int LEAST = Integer.MIN_VALUE;
    private static final int MOST = Integer.MAX_VALUE;

    /** Just outside, far outside, and such as a cast to byte or short would make good. */
    static final int[] BAD_SPACES = {-1, -2, 2, 3, 256, 65537, LEAST, LEAST + 1, MOST, MOST - 1};
    static final int[] BAD_PAGES = {-1, -31, -32, -33, -64, 32, 33, 63, 64, 256, 65536, LEAST, LEAST + 31, MOST, MOST - 31};
    /** Pairs of a page and a count; in the later ones, page + count or page + count - 1 wraps around. */
    static final int[][] BAD_RANGES = {{0, 0}, {0, -1}, {0, 33}, {1, 32}, {31, 2}, {32, 1}, {32, 0}, {31, 0}, {-1, 1}, {-1, 2},
        {-1, 33}, {-1, 0}, {33, -1}, {33, -2}, {16, 17}, {-32, 64}, {0, 64}, {0, 256 + 1}, {256, 1}, {0, 65536 + 1}, {65536, 1},
        {0, MOST}, {0, LEAST}, {MOST, 1}, {MOST, 2}, {MOST, 32}, {MOST - 31, 32}, {1, MOST}, {2, MOST}, {31, MOST}, {MOST, MOST},
        {LEAST, 1}, {LEAST, 32}, {LEAST + 1, MOST}, {LEAST, LEAST}, {LEAST, MOST}, {MOST, LEAST}, {-1, LEAST}, {31, LEAST}};
    /** As stamp takes them, 64 * page + count; the later ones are negative. */
    static final int[] BAD_STAMP_RANGES = {0, 33, 34, 63, 64, 64 + 32, 64 + 63, 64 * 16 + 17, 64 * 31, 64 * 31 + 2, 64 * 31 + 33,
        64 * 31 + 63, 64 * 32, 64 * 32 + 1, 64 * 33 + 1, 64 * 64 + 1, 64 * 256 + 1, 65536 + 1, 64 * 65536 + 1, (1 << 30) + 1,
        MOST - 63, MOST - 62, MOST - 31, MOST - 1, MOST, -1, -31, -32, -33, -63, -64, -64 * 31 - 1, -64 * 32 + 1, -65536 + 1,
        LEAST + 64, LEAST + 63, LEAST + 32, LEAST + 1, LEAST};
    static final int[] ANY_INTS = {LEAST, LEAST + 1, -65536, -256, -2, -1, 0, 1, 2, 127, 128, 255, 256, 65536, MOST - 1, MOST};

    private static String heading = "";
    private static int made = 0;
    private static int wrong = 0;

    private Checks() {
    }

    /** The words of the document that the checks from here on are about. */
    static void sentence(String where, String words) {
        heading = "[" + where + ": " + words + "] ";
    }

    static void due(String call, long got, long want) {
        made++;
        if (got != want) {
            wrong++;
            System.out.println(heading + call + " answered " + got + ", due is " + want);
        }
    }

    static void holds(String claim, boolean isTrue) {
        made++;
        if (!isTrue) {
            wrong++;
            System.out.println(heading + "does not hold: " + claim);
        }
    }

    /** Checks a mapped page; takes 3 calls. */
    static void page(String when, PageRangeStore store, int space, int page, int writable, int content) {
        String told = "(" + space + ", " + page + ") " + when;
        due("mapped" + told, store.mapped(space, page), 1);
        due("writable" + told, store.writable(space, page), writable);
        due("read" + told, store.read(space, page), content);
    }

    /** Checks a page that is not mapped; takes 3 calls. */
    static void noPage(String when, PageRangeStore store, int space, int page) {
        String told = "(" + space + ", " + page + ") " + when;
        due("mapped" + told, store.mapped(space, page), 0);
        due("writable" + told, store.writable(space, page), 0);
        due("read" + told, store.read(space, page), 0);
    }

    /** All that can be seen of an object's pages; takes 192 of its 512 calls. */
    static int[] pagesOf(PageRangeStore store) {
        int[] seen = new int[192];
        int at = 0;
        for (int space = 0; space < 2; space++) {
            for (int page = 0; page < 32; page++) {
                seen[at++] = store.mapped(space, page);
                seen[at++] = store.writable(space, page);
                seen[at++] = store.read(space, page);
            }
        }
        return seen;
    }

    static void finish() {
        System.out.println(made + " checks, " + wrong + " wrong");
        if (made == 0 || wrong != 0) {
            System.exit(1);
        }
    }
}
