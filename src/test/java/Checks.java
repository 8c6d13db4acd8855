/** Counts and prints the answers that are not as due; each test runs in a JVM of its own. */
final class Checks {
    static final int[] BAD_SPACES = {-1, 2, 3, Integer.MIN_VALUE, Integer.MAX_VALUE};
    static final int[] BAD_PAGES = {-1, 32, 33, 64, -32, Integer.MIN_VALUE, Integer.MAX_VALUE};

    private static int made = 0;
    private static int wrong = 0;

    private Checks() {
    }

    static void due(String call, long got, long want) {
        made++;
        if (got != want) {
            wrong++;
            System.out.println(call + " answered " + got + ", due is " + want);
        }
    }

    static void holds(String claim, boolean isTrue) {
        made++;
        if (!isTrue) {
            wrong++;
            System.out.println("does not hold: " + claim);
        }
    }

    /** All that can be seen of an object's pages; takes 192 of its 512 calls. */
    static int[] pagesOf(PageRangeStore store) {
        int[] seen = new int[192];
        int at = 0;
        for (int space = 0; space < 2; space++) {
            for (int page = 0; page < 32; page++) {
                seen[at++] = store.mapped(space, page);
                seen[at++] = store.writable(space, page);
                seen[at++] = store.read(space, page);
            }
        }
        return seen;
    }

    static void finish() {
        System.out.println(made + " checks, " + wrong + " wrong");
        if (made == 0 || wrong != 0) {
            System.exit(1);
        }
    }
}
