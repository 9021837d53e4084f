/** THE SEED and its DRAWS, written from the document a second time. */
final class HandDraws {
    private static final int ANY = -1;
    private static final int MOST_TRIED = 10_000_000;
    private long seed;

    HandDraws(long seed) {
        this.seed = seed;
    }

    int draw(int n) {
        seed = (seed * 1103515245L + 12345L) % 2147483648L;
        return (int) (seed / 65536 % n);
    }

    int seed() {
        return (int) seed;
    }

    /** The seed from which a time BY DRAWS draws these first of 3 and of 200. */
    static int startFor(int kind, int key) {
        return startFor(kind, key, ANY);
    }

    /** The same with what is drawn of 100 then. */
    static int startFor(int kind, int key, int worth) {
        for (int start = 0; start < MOST_TRIED; start++) {
            HandDraws draws = new HandDraws(start);
            if (draws.draw(3) == kind && draws.draw(200) == key && (worth == ANY || draws.draw(100) == worth)) {
                return start;
            }
        }
        throw new IllegalStateException("no seed draws " + kind + ", " + key + ", " + worth);
    }
}
