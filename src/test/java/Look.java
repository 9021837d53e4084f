import java.util.function.Supplier;

/** Tells what can be seen of a RankIndex through its face, as texts that tests can compare. */
final class Look {
    /** What stands in for a key in a mirrored tree. */
    static final int MIRROR = 100;

    private Look() {
    }

    /** Each node as key:rank, with (left,right) behind it if it has a child; - for no node. */
    static String shape(RankIndex x) {
        return shape(x, x.told(0) == 0 ? RankIndex.NONE : 0, false);
    }

    /** The same of the tree as seen in a mirror: sides exchanged, MIRROR less each key. */
    static String mirrored(RankIndex x) {
        return shape(x, x.told(0) == 0 ? RankIndex.NONE : 0, true);
    }

    private static String shape(RankIndex x, int node, boolean mirrored) {
        if (node == RankIndex.NONE) {
            return "-";
        }
        int key = mirrored ? MIRROR - x.node(node, 0) : x.node(node, 0);
        String own = key + ":" + x.node(node, 1);
        int left = x.node(node, mirrored ? 4 : 3);
        int right = x.node(node, mirrored ? 3 : 4);
        if (left == RankIndex.NONE && right == RankIndex.NONE) {
            return own;
        }
        return own + "(" + shape(x, left, mirrored) + "," + shape(x, right, mirrored) + ")";
    }

    static String keys(RankIndex x) {
        StringBuilder text = new StringBuilder();
        int keys = x.told(0);
        for (int k = 0; k < keys; k++) {
            int key = x.at(k);
            text.append(k == 0 ? "" : " ").append(key).append('=').append(x.key(key, 0));
        }
        return text.toString();
    }

    /** PROMOTED, DEMOTED, TURNS of all and, behind a stroke, of the latest. */
    static String counts(RankIndex x) {
        return x.told(5) + " " + x.told(6) + " " + x.told(7) + " / " + latest(x);
    }

    static String latest(RankIndex x) {
        return x.told(8) + " " + x.told(9) + " " + x.told(10);
    }

    static int seed(RankIndex x) {
        int seed = x.seed(0);
        x.seed(seed);
        return seed;
    }

    /** The tree and the counts: what undoing brings back. */
    static String tree(RankIndex x) {
        return shape(x) + " | " + keys(x) + " | " + counts(x);
    }

    /** All that can be told at once, by few calls, so that an object of sixty keys can be looked at twice. */
    static String now(RankIndex x) {
        StringBuilder text = new StringBuilder();
        for (int what = 0; what < 17; what++) {
            text.append(x.told(what)).append(' ');
        }
        int nodes = x.told(0);
        for (int n = 0; n < nodes; n++) {
            int key = x.node(n, 0);
            text.append(key).append(':').append(x.node(n, 1)).append('=').append(x.key(key, 0)).append(' ');
        }
        return text.append("seed ").append(seed(x)).toString();
    }

    /**
     * All that can be seen from here on: now, with each number of deeds undone, from each image.
     * Each look has an object of its own, as the object may not be used for many calls.
     */
    static String onwards(Supplier<RankIndex> made) {
        StringBuilder text = new StringBuilder(now(made.get()));
        int deeds = made.get().told(16);
        for (int n = 1; n <= deeds; n++) {
            RankIndex x = made.get();
            text.append("\n undo ").append(n).append(' ').append(x.undo(n)).append(": ").append(now(x));
        }
        for (int i = 0; i < 2; i++) {
            RankIndex x = made.get();
            text.append("\n image ").append(i).append(' ').append(x.goBack(i)).append(": ").append(now(x));
        }
        return text.toString();
    }
}
