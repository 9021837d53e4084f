/** Tells what can be seen of a RankIndex through its face, as texts that tests can compare. */
final class Look {
    /** What stands in for a key in a mirrored tree. */
    static final int MIRROR = 100;

    private Look() {
    }

    /** Each node as key:rank, with (left,right) behind it if it has a child; - for no node. */
    static String shape(RankIndex x) {
        return shape(x, x.told(0) == 0 ? RankIndex.NONE : 0, false);
    }

    /** The same of the tree as seen in a mirror: sides exchanged, MIRROR less each key. */
    static String mirrored(RankIndex x) {
        return shape(x, x.told(0) == 0 ? RankIndex.NONE : 0, true);
    }

    private static String shape(RankIndex x, int node, boolean mirrored) {
        if (node == RankIndex.NONE) {
            return "-";
        }
        int key = mirrored ? MIRROR - x.node(node, 0) : x.node(node, 0);
        String own = key + ":" + x.node(node, 1);
        int left = x.node(node, mirrored ? 4 : 3);
        int right = x.node(node, mirrored ? 3 : 4);
        if (left == RankIndex.NONE && right == RankIndex.NONE) {
            return own;
        }
        return own + "(" + shape(x, left, mirrored) + "," + shape(x, right, mirrored) + ")";
    }

    static String keys(RankIndex x) {
        StringBuilder text = new StringBuilder();
        for (int k = 0; k < x.told(0); k++) {
            int key = x.at(k);
            text.append(k == 0 ? "" : " ").append(key).append('=').append(x.key(key, 0));
        }
        return text.toString();
    }

    /** PROMOTED, DEMOTED, TURNS of all and, behind a stroke, of the latest. */
    static String counts(RankIndex x) {
        return x.told(5) + " " + x.told(6) + " " + x.told(7) + " / " + latest(x);
    }

    static String latest(RankIndex x) {
        return x.told(8) + " " + x.told(9) + " " + x.told(10);
    }

    static int seed(RankIndex x) {
        int seed = x.seed(0);
        x.seed(seed);
        return seed;
    }

    /** The tree and the counts: what undoing brings back. */
    static String tree(RankIndex x) {
        return shape(x) + " | " + keys(x) + " | " + counts(x);
    }

    /** All that a refused call has to leave as it is. */
    static String all(RankIndex x) {
        return tree(x) + " | " + seed(x) + " | " + x.told(16);
    }
}
