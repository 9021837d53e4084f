import java.util.Arrays;

/** An ordered index of at most sixty keys, held in a tree that is balanced by ranks. */
public final class RankIndex {
    public static final int NONE = -1, UNKNOWN = -1000000001, OUTSIDE = -1000000002, NOT = -1000000003, FULL = -1000000004;

    private static final int MOST_KEYS = 60;
    private static final int GREATEST_KEY = 99999;
    private static final int GREATEST_WORTH = 9999;
    private static final int MOST_OF_BATCH = 30;
    private static final int GREATEST_GAP = 9999;
    private static final int BATCH_WORTH = 1;
    private static final int IMAGE_COUNT = 2;
    private static final int MOST_UNDONE = 12;
    private static final int MOST_DRIFT = 12;
    private static final int LEAST_TOLD_RANK = -1;
    private static final int GREATEST_TOLD_RANK = 30;
    private static final int RANK_OF_NO_NODE = -1;
    private static final int DRAWN_KINDS = 3;
    private static final int TAKING_KIND = 2;
    private static final int DRAWN_KEYS = 200;
    private static final int DRAWN_WORTHS = 100;

    private final Tree tree;
    /** A tree to try things on: made once, so that no call has to make one. */
    private final Tree trial;
    private final Past past;
    private final Image[] images;
    private final Draws draws;

    public RankIndex() {
        tree = new Tree();
        trial = new Tree();
        past = new Past();
        draws = new Draws();
        images = new Image[IMAGE_COUNT];
        for (int i = 0; i < IMAGE_COUNT; i++) {
            images[i] = new Image();
        }
    }

    // ---- the tree

    public int told(int what) {
        Nodes nodes = tree.nodes;
        switch (what) {
            case 0: return nodes.count;
            case 1: return nodes.keyOf(nodes.top);
            case 2: return nodes.top == NONE ? NONE : nodes.rankOf(nodes.top);
            case 3: return Survey.depth(nodes);
            case 4: return Survey.worthFrom(nodes, 0, GREATEST_KEY);
            case 5: return tree.all.promoted;
            case 6: return tree.all.demoted;
            case 7: return tree.all.turns;
            case 8: return tree.latest.promoted;
            case 9: return tree.latest.demoted;
            case 10: return tree.latest.turns;
            case 11: return Survey.ranksTogether(nodes);
            case 12: return Survey.longSteps(nodes);
            case 13: return costliestKey();
            case 14: return Bounds.flat(nodes.count);
            case 15: return Bounds.tall(nodes.count);
            case 16: return past.held;
            default: return OUTSIDE;
        }
    }

    public int node(int n, int what) {
        Nodes nodes = tree.nodes;
        int slot = nodes.slotOfNumber(n);
        if (slot == NONE) {
            return UNKNOWN;
        }
        switch (what) {
            case 0: return nodes.keyOf(slot);
            case 1: return nodes.rankOf(slot);
            case 2: return nodes.howManyAbove(slot);
            case 3: return nodes.numberOfSlot(nodes.leftOf(slot));
            case 4: return nodes.numberOfSlot(nodes.rightOf(slot));
            case 5: return Survey.howManyBelow(nodes, slot);
            case 6: return slot == nodes.top ? NONE : nodes.step(nodes.parentOf(slot), slot);
            default: return OUTSIDE;
        }
    }

    public int key(int key, int what) {
        Nodes nodes = tree.nodes;
        int slot = nodes.slotOfKey(key);
        if (slot == NONE) {
            return UNKNOWN;
        }
        switch (what) {
            case 0: return nodes.worthOf(slot);
            case 1: return nodes.numberOfSlot(slot);
            case 2: return Survey.howManyLess(nodes, key);
            default: return OUTSIDE;
        }
    }

    public int at(int k) {
        Nodes nodes = tree.nodes;
        if (k < 0 || k >= nodes.count) {
            return NONE;
        }
        int slot = nodes.leastBelow(nodes.top);
        for (int i = 0; i < k; i++) {
            slot = nodes.nextRising(slot);
        }
        return nodes.keyOf(slot);
    }

    // ---- deeds

    public int put(int key, int worth) {
        if (!isKey(key) || !isWorth(worth)) {
            return OUTSIDE;
        }
        if (isThere(key)) {
            return NOT;
        }
        if (!hasRoom()) {
            return FULL;
        }
        past.remember(tree);
        tree.add(key, worth);
        return tree.latest.turns;
    }

    public int take(int key) {
        if (!isKey(key)) {
            return OUTSIDE;
        }
        int slot = tree.nodes.slotOfKey(key);
        if (slot == NONE) {
            return NOT;
        }
        int was = tree.nodes.worthOf(slot);
        past.remember(tree);
        tree.remove(slot);
        return was;
    }

    public int worth(int key, int worth) {
        int slot = tree.nodes.slotOfKey(key);
        if (slot == NONE) {
            return UNKNOWN;
        }
        if (!isWorth(worth)) {
            return OUTSIDE;
        }
        int was = tree.nodes.worthOf(slot);
        past.remember(tree);
        tree.nodes.setWorth(slot, worth);
        return was;
    }

    public int cut(int key) {
        if (!isWithin(key, 0, GREATEST_KEY + 1)) {
            return OUTSIDE;
        }
        past.remember(tree);
        int gone = Survey.howManyLess(tree.nodes, key);
        for (int i = 0; i < gone; i++) {
            tree.remove(tree.nodes.leastBelow(tree.nodes.top));
        }
        return gone;
    }

    public int batch(int n, int a, int d) {
        if (!isWithin(n, 1, MOST_OF_BATCH) || !isKey(a) || !isWithin(d, 1, GREATEST_GAP)) {
            return OUTSIDE;
        }
        past.remember(tree);
        int before = tree.nodes.count;
        for (int i = 0; i < n; i++) {
            addIfItCan(a + i * d, BATCH_WORTH);
        }
        return tree.nodes.count - before;
    }

    public int rebuild() {
        past.remember(tree);
        trial.copyFrom(tree);
        tree.nodes.clear();
        addRising(trial.nodes, NONE);
        return Survey.depth(tree.nodes);
    }

    public int join(int i) {
        if (!isImage(i)) {
            return UNKNOWN;
        }
        if (!images[i].kept) {
            return NOT;
        }
        past.remember(tree);
        int before = tree.nodes.count;
        int greatest = tree.nodes.keyOf(tree.nodes.greatestBelow(tree.nodes.top));
        addRising(images[i].tree.nodes, greatest);
        return tree.nodes.count - before;
    }

    public int drift(int n) {
        if (!isWithin(n, 1, MOST_DRIFT)) {
            return OUTSIDE;
        }
        for (int i = 0; i < n; i++) {
            past.remember(tree);
            driftOnce();
        }
        return tree.nodes.count;
    }

    public int undo(int n) {
        if (!isWithin(n, 1, MOST_UNDONE)) {
            return OUTSIDE;
        }
        if (n > past.held) {
            return NOT;
        }
        past.restore(tree, n);
        return tree.nodes.count;
    }

    // ---- asked

    public int less(int v) {
        return Survey.howManyLess(tree.nodes, v);
    }

    public int beside(int v, int what) {
        switch (what) {
            case 0: return Survey.greatestLess(tree.nodes, v);
            case 1: return Survey.leastGreater(tree.nodes, v);
            default: return OUTSIDE;
        }
    }

    public int between(int a, int b, int what) {
        switch (what) {
            case 0: return Survey.howManyFrom(tree.nodes, a, b);
            case 1: return Survey.worthFrom(tree.nodes, a, b);
            case 2: return Survey.mostWorthFrom(tree.nodes, a, b);
            default: return OUTSIDE;
        }
    }

    public int way(int key, int i) {
        Nodes nodes = tree.nodes;
        int slot = nodes.slotOfKey(key);
        if (slot == NONE) {
            return UNKNOWN;
        }
        int above = nodes.howManyAbove(slot);
        if (i < 0 || i > above) {
            return NONE;
        }
        for (int up = above; up > i; up--) {
            slot = nodes.parentOf(slot);
        }
        return nodes.keyOf(slot);
    }

    public int audit(int n, int r) {
        int slot = tree.nodes.slotOfNumber(n);
        if (slot == NONE) {
            return UNKNOWN;
        }
        if (!isWithin(r, LEAST_TOLD_RANK, GREATEST_TOLD_RANK)) {
            return OUTSIDE;
        }
        trial.copyFrom(tree);
        trial.nodes.setRank(slot, r);
        return Survey.firstWrong(trial.nodes);
    }

    // ---- images

    public int seed(int v) {
        if (v < 0) {
            return OUTSIDE;
        }
        int was = draws.value;
        draws.value = v;
        return was;
    }

    public int keep(int i) {
        if (!isImage(i)) {
            return UNKNOWN;
        }
        images[i].tree.copyFrom(tree);
        images[i].seedValue = draws.value;
        images[i].kept = true;
        past.forget();
        return 1;
    }

    public int goBack(int i) {
        if (!isImage(i)) {
            return UNKNOWN;
        }
        if (!images[i].kept) {
            return NOT;
        }
        tree.copyFrom(images[i].tree);
        draws.value = images[i].seedValue;
        past.forget();
        return 1;
    }

    private static boolean isWithin(int v, int from, int to) {
        return v >= from && v <= to;
    }

    private static boolean isKey(int v) {
        return isWithin(v, 0, GREATEST_KEY);
    }

    private static boolean isWorth(int v) {
        return isWithin(v, 0, GREATEST_WORTH);
    }

    private static boolean isImage(int i) {
        return i >= 0 && i < IMAGE_COUNT;
    }

    private boolean isThere(int wanted) {
        return tree.nodes.slotOfKey(wanted) != NONE;
    }

    private boolean hasRoom() {
        return tree.nodes.count < MOST_KEYS;
    }

    private void addIfItCan(int newKey, int newWorth) {
        if (isKey(newKey) && !isThere(newKey) && hasRoom()) {
            tree.add(newKey, newWorth);
        }
    }

    /** No key of the tree may be greater than the bound: then none that comes is there. */
    private void addRising(Nodes source, int above) {
        int slot = source.leastBelow(source.top);
        for (int i = 0; i < MOST_KEYS && slot != NONE; i++) {
            if (source.keyOf(slot) > above && hasRoom()) {
                tree.add(source.keyOf(slot), source.worthOf(slot));
            }
            slot = source.nextRising(slot);
        }
    }

    private void driftOnce() {
        int kind = draws.next(DRAWN_KINDS);
        int drawn = draws.next(DRAWN_KEYS);
        int slot = tree.nodes.slotOfKey(drawn);
        if (kind == TAKING_KIND) {
            tree.remove(slot);
        } else if (slot == NONE && hasRoom()) {
            tree.add(drawn, draws.next(DRAWN_WORTHS));
        }
    }

    private int costliestKey() {
        int costliest = NONE;
        int most = -1;
        int slot = tree.nodes.leastBelow(tree.nodes.top);
        for (int i = 0; i < MOST_KEYS && slot != NONE; i++) {
            // A copy has its nodes in the same slots, so the slot serves there too.
            trial.copyFrom(tree);
            trial.remove(slot);
            if (trial.latest.together() > most) {
                most = trial.latest.together();
                costliest = tree.nodes.keyOf(slot);
            }
            slot = tree.nodes.nextRising(slot);
        }
        return costliest;
    }

    /**
     * The nodes and how they hang together. A node is named by its slot, one that there is not
     * by NONE; a slot is free while its key is NONE. What is asked of NONE has an answer too,
     * so that a missing child needs no case of its own.
     */
    private static final class Nodes {
        final int[] keys = new int[MOST_KEYS];
        final int[] worths = new int[MOST_KEYS];
        final int[] ranks = new int[MOST_KEYS];
        final int[] lefts = new int[MOST_KEYS];
        final int[] rights = new int[MOST_KEYS];
        final int[] parents = new int[MOST_KEYS];
        int top = NONE;
        int count = 0;

        Nodes() {
            Arrays.fill(keys, NONE);
        }

        void clear() {
            Arrays.fill(keys, NONE);
            top = NONE;
            count = 0;
        }

        void copyFrom(Nodes other) {
            System.arraycopy(other.keys, 0, keys, 0, MOST_KEYS);
            System.arraycopy(other.worths, 0, worths, 0, MOST_KEYS);
            System.arraycopy(other.ranks, 0, ranks, 0, MOST_KEYS);
            System.arraycopy(other.lefts, 0, lefts, 0, MOST_KEYS);
            System.arraycopy(other.rights, 0, rights, 0, MOST_KEYS);
            System.arraycopy(other.parents, 0, parents, 0, MOST_KEYS);
            top = other.top;
            count = other.count;
        }

        int keyOf(int n) {
            return n < 0 || n >= MOST_KEYS ? NONE : keys[n];
        }

        int worthOf(int n) {
            return n < 0 || n >= MOST_KEYS ? 0 : worths[n];
        }

        int rankOf(int n) {
            return n < 0 || n >= MOST_KEYS ? RANK_OF_NO_NODE : ranks[n];
        }

        int leftOf(int n) {
            return n < 0 || n >= MOST_KEYS ? NONE : lefts[n];
        }

        int rightOf(int n) {
            return n < 0 || n >= MOST_KEYS ? NONE : rights[n];
        }

        int childOf(int n, boolean left) {
            if (n < 0 || n >= MOST_KEYS) {
                return NONE;
            }
            return left ? lefts[n] : rights[n];
        }

        int parentOf(int n) {
            return n < 0 || n >= MOST_KEYS ? NONE : parents[n];
        }

        /** The parent has to be told, as a child that there is not knows none. */
        int step(int parent, int child) {
            return rankOf(parent) - rankOf(child);
        }

        boolean isLeaf(int n) {
            return leftOf(n) == NONE && rightOf(n) == NONE;
        }

        void setWorth(int n, int worth) {
            if (n >= 0 && n < MOST_KEYS) {
                worths[n] = worth;
            }
        }

        void setRank(int n, int rank) {
            if (n >= 0 && n < MOST_KEYS) {
                ranks[n] = rank;
            }
        }

        void addRank(int n, int more) {
            if (n >= 0 && n < MOST_KEYS) {
                ranks[n] += more;
            }
        }

        /** Below no parent, the child is the top. */
        void hang(int parent, boolean left, int child) {
            if (child >= 0 && child < MOST_KEYS) {
                parents[child] = parent;
            }
            if (parent < 0 || parent >= MOST_KEYS) {
                top = child;
            } else if (left) {
                lefts[parent] = child;
            } else {
                rights[parent] = child;
            }
        }

        int hangNew(int newKey, int newWorth) {
            int parent = NONE;
            boolean left = false;
            int n = top;
            for (int i = 0; i < MOST_KEYS && n != NONE; i++) {
                parent = n;
                left = newKey < keyOf(n);
                n = childOf(n, left);
            }
            int slot = freeSlot();
            fill(slot, newKey, newWorth);
            hang(parent, left, slot);
            return slot;
        }

        private int freeSlot() {
            for (int n = 0; n < MOST_KEYS; n++) {
                if (keys[n] == NONE) {
                    return n;
                }
            }
            return NONE;
        }

        private void fill(int n, int newKey, int newWorth) {
            if (n >= 0 && n < MOST_KEYS) {
                keys[n] = newKey;
                worths[n] = newWorth;
                ranks[n] = 0;
                lefts[n] = NONE;
                rights[n] = NONE;
                count++;
            }
        }

        /** For a node with one child at most: that child, or none, comes in its place. */
        int takeOff(int n) {
            int parent = parentOf(n);
            int heir = leftOf(n) != NONE ? leftOf(n) : rightOf(n);
            hang(parent, leftOf(parent) == n, heir);
            if (n >= 0 && n < MOST_KEYS) {
                keys[n] = NONE;
                count--;
            }
            return heir;
        }

        void copyKeyAndWorth(int from, int to) {
            if (from >= 0 && from < MOST_KEYS && to >= 0 && to < MOST_KEYS) {
                keys[to] = keys[from];
                worths[to] = worths[from];
            }
        }

        void turnOverParent(int n) {
            int parent = parentOf(n);
            if (parent == NONE) {
                return;
            }
            int above = parentOf(parent);
            boolean parentIsLeft = leftOf(above) == parent;
            boolean left = leftOf(parent) == n;
            hang(parent, left, childOf(n, !left));
            hang(n, !left, parent);
            hang(above, parentIsLeft, n);
        }

        int slotOfKey(int wanted) {
            int n = top;
            for (int i = 0; i < MOST_KEYS && n != NONE; i++) {
                if (keyOf(n) == wanted) {
                    return n;
                }
                n = childOf(n, wanted < keyOf(n));
            }
            return NONE;
        }

        int leastBelow(int n) {
            return endOf(n, true);
        }

        int greatestBelow(int n) {
            return endOf(n, false);
        }

        private int endOf(int n, boolean left) {
            int end = n;
            for (int i = 0; i < MOST_KEYS && childOf(end, left) != NONE; i++) {
                end = childOf(end, left);
            }
            return end;
        }

        int nextRising(int n) {
            if (rightOf(n) != NONE) {
                return leastBelow(rightOf(n));
            }
            int below = n;
            int parent = parentOf(n);
            for (int i = 0; i < MOST_KEYS && parent != NONE && leftOf(parent) != below; i++) {
                below = parent;
                parent = parentOf(below);
            }
            return parent;
        }

        int nextByNumber(int n) {
            if (leftOf(n) != NONE) {
                return leftOf(n);
            }
            if (rightOf(n) != NONE) {
                return rightOf(n);
            }
            int below = n;
            int parent = parentOf(n);
            for (int i = 0; i < MOST_KEYS && parent != NONE; i++) {
                if (leftOf(parent) == below && rightOf(parent) != NONE) {
                    return rightOf(parent);
                }
                below = parent;
                parent = parentOf(below);
            }
            return NONE;
        }

        int slotOfNumber(int number) {
            if (number < 0 || number >= count) {
                return NONE;
            }
            int n = top;
            for (int i = 0; i < number; i++) {
                n = nextByNumber(n);
            }
            return n;
        }

        int numberOfSlot(int slot) {
            int n = top;
            for (int i = 0; i < count; i++) {
                if (n == slot) {
                    return i;
                }
                n = nextByNumber(n);
            }
            return NONE;
        }

        int howManyAbove(int n) {
            int above = 0;
            int parent = parentOf(n);
            for (int i = 0; i < MOST_KEYS && parent != NONE; i++) {
                above++;
                parent = parentOf(parent);
            }
            return above;
        }
    }

    /** What the mending of ranks has cost. */
    private static final class Counts {
        int promoted = 0;
        int demoted = 0;
        int turns = 0;

        void clear() {
            promoted = 0;
            demoted = 0;
            turns = 0;
        }

        void copyFrom(Counts other) {
            promoted = other.promoted;
            demoted = other.demoted;
            turns = other.turns;
        }

        void add(Counts other) {
            promoted += other.promoted;
            demoted += other.demoted;
            turns += other.turns;
        }

        int together() {
            return promoted + demoted + turns;
        }
    }

    /** The nodes with the counts, and how a key comes and goes. */
    private static final class Tree {
        final Nodes nodes = new Nodes();
        final Counts all = new Counts();
        final Counts latest = new Counts();

        void copyFrom(Tree other) {
            nodes.copyFrom(other.nodes);
            all.copyFrom(other.all);
            latest.copyFrom(other.latest);
        }

        /** For a key that is not there, while there is room. */
        void add(int newKey, int newWorth) {
            latest.clear();
            mendUpwards(nodes.hangNew(newKey, newWorth));
            all.add(latest);
        }

        void remove(int slot) {
            if (slot == NONE) {
                return;
            }
            latest.clear();
            int gone = slot;
            if (nodes.leftOf(slot) != NONE && nodes.rightOf(slot) != NONE) {
                gone = nodes.leastBelow(nodes.rightOf(slot));
                nodes.copyKeyAndWorth(gone, slot);
            }
            int parent = nodes.parentOf(gone);
            int heir = nodes.takeOff(gone);
            if (parent != NONE && nodes.isLeaf(parent) && nodes.rankOf(parent) == 1) {
                demote(parent);
                heir = parent;
                parent = nodes.parentOf(heir);
            }
            mendGap(parent, heir);
            all.add(latest);
        }

        private void mendUpwards(int added) {
            int x = added;
            int parent = nodes.parentOf(x);
            for (int i = 0; i < MOST_KEYS && parent != NONE && nodes.step(parent, x) == 0; i++) {
                boolean left = nodes.leftOf(parent) == x;
                if (nodes.step(parent, nodes.childOf(parent, !left)) != 1) {
                    turnAfterAdding(parent, x, left);
                    return;
                }
                promote(parent);
                x = parent;
                parent = nodes.parentOf(x);
            }
        }

        private void turnAfterAdding(int parent, int x, boolean left) {
            int inner = nodes.childOf(x, !left);
            if (nodes.step(x, inner) == 1) {
                nodes.turnOverParent(inner);
                nodes.turnOverParent(inner);
                latest.turns += 2;
                nodes.addRank(inner, 1);
                nodes.addRank(x, -1);
            } else {
                nodes.turnOverParent(x);
                latest.turns++;
            }
            nodes.addRank(parent, -1);
        }

        private void mendGap(int lowest, int heir) {
            int x = heir;
            int parent = lowest;
            for (int i = 0; i < MOST_KEYS && parent != NONE && nodes.step(parent, x) == 3; i++) {
                boolean left = nodes.leftOf(parent) == x;
                int y = nodes.childOf(parent, !left);
                if (nodes.step(parent, y) != 2) {
                    if (!hasOnlyLongSteps(y)) {
                        turnAfterRemoving(parent, y, !left);
                        return;
                    }
                    demote(y);
                }
                demote(parent);
                x = parent;
                parent = nodes.parentOf(x);
            }
        }

        private boolean hasOnlyLongSteps(int n) {
            return nodes.step(n, nodes.leftOf(n)) == 2 && nodes.step(n, nodes.rightOf(n)) == 2;
        }

        private void turnAfterRemoving(int parent, int y, boolean yIsLeft) {
            if (nodes.step(y, nodes.childOf(y, yIsLeft)) == 1) {
                nodes.turnOverParent(y);
                latest.turns++;
                nodes.addRank(y, 1);
                nodes.addRank(parent, nodes.isLeaf(parent) ? -2 : -1);
                return;
            }
            int inner = nodes.childOf(y, !yIsLeft);
            nodes.turnOverParent(inner);
            nodes.turnOverParent(inner);
            latest.turns += 2;
            nodes.addRank(inner, 2);
            nodes.addRank(y, -1);
            nodes.addRank(parent, -2);
        }

        private void promote(int n) {
            nodes.addRank(n, 1);
            latest.promoted++;
        }

        private void demote(int n) {
            nodes.addRank(n, -1);
            latest.demoted++;
        }
    }

    /** The trees ahead of the latest deeds: a ring, as the oldest one gives way to the newest. */
    private static final class Past {
        final Tree[] rows = new Tree[MOST_UNDONE];
        int next = 0;
        int held = 0;

        Past() {
            for (int i = 0; i < MOST_UNDONE; i++) {
                rows[i] = new Tree();
            }
        }

        void remember(Tree tree) {
            if (next < 0 || next >= MOST_UNDONE) {
                return;
            }
            rows[next].copyFrom(tree);
            next = next + 1 == MOST_UNDONE ? 0 : next + 1;
            held = Math.min(held + 1, MOST_UNDONE);
        }

        void restore(Tree tree, int deeds) {
            int row = next - deeds < 0 ? next - deeds + MOST_UNDONE : next - deeds;
            if (deeds > held || row < 0 || row >= MOST_UNDONE) {
                return;
            }
            tree.copyFrom(rows[row]);
            next = row;
            held -= deeds;
        }

        void forget() {
            held = 0;
        }
    }

    /** A state to go back to. */
    private static final class Image {
        final Tree tree = new Tree();
        int seedValue = 0;
        boolean kept = false;
    }

    /** The source of draws; it is no part of the tree, as undoing leaves it. */
    private static final class Draws {
        int value = 0;

        int next(int n) {
            value = (int) ((value * 1103515245L + 12345L) & 0x7fffffffL);
            return n < 1 ? 0 : value / 65536 % n;
        }
    }

    /** What is asked of all nodes, or of all keys in a range. */
    private static final class Survey {
        private static boolean isFrom(Nodes nodes, int n, int a, int b) {
            int own = nodes.keyOf(n);
            return own != NONE && own >= a && own <= b;
        }

        static int howManyFrom(Nodes nodes, int a, int b) {
            int many = 0;
            for (int n = 0; n < MOST_KEYS; n++) {
                if (isFrom(nodes, n, a, b)) {
                    many++;
                }
            }
            return many;
        }

        static int worthFrom(Nodes nodes, int a, int b) {
            int sum = 0;
            for (int n = 0; n < MOST_KEYS; n++) {
                if (isFrom(nodes, n, a, b)) {
                    sum += nodes.worthOf(n);
                }
            }
            return sum;
        }

        static int mostWorthFrom(Nodes nodes, int a, int b) {
            int best = NONE;
            for (int n = 0; n < MOST_KEYS; n++) {
                if (isFrom(nodes, n, a, b) && (best == NONE || isWorthier(nodes, n, best))) {
                    best = n;
                }
            }
            return nodes.keyOf(best);
        }

        private static boolean isWorthier(Nodes nodes, int n, int other) {
            if (nodes.worthOf(n) != nodes.worthOf(other)) {
                return nodes.worthOf(n) > nodes.worthOf(other);
            }
            return nodes.keyOf(n) < nodes.keyOf(other);
        }

        static int howManyLess(Nodes nodes, int v) {
            int many = 0;
            for (int n = 0; n < MOST_KEYS; n++) {
                if (nodes.keyOf(n) != NONE && nodes.keyOf(n) < v) {
                    many++;
                }
            }
            return many;
        }

        static int greatestLess(Nodes nodes, int v) {
            int found = NONE;
            int n = nodes.top;
            for (int i = 0; i < MOST_KEYS && n != NONE; i++) {
                boolean isLess = nodes.keyOf(n) < v;
                if (isLess) {
                    found = nodes.keyOf(n);
                }
                n = nodes.childOf(n, !isLess);
            }
            return found;
        }

        static int leastGreater(Nodes nodes, int v) {
            int found = NONE;
            int n = nodes.top;
            for (int i = 0; i < MOST_KEYS && n != NONE; i++) {
                boolean isGreater = nodes.keyOf(n) > v;
                if (isGreater) {
                    found = nodes.keyOf(n);
                }
                n = nodes.childOf(n, isGreater);
            }
            return found;
        }

        /** All keys below a node, with its own, are those from the least to the greatest there. */
        static int howManyBelow(Nodes nodes, int n) {
            int least = nodes.keyOf(nodes.leastBelow(n));
            int greatest = nodes.keyOf(nodes.greatestBelow(n));
            return howManyFrom(nodes, least, greatest);
        }

        static int depth(Nodes nodes) {
            int deepest = 0;
            for (int n = 0; n < MOST_KEYS; n++) {
                if (nodes.keyOf(n) != NONE) {
                    deepest = Math.max(deepest, nodes.howManyAbove(n) + 1);
                }
            }
            return deepest;
        }

        static int ranksTogether(Nodes nodes) {
            int sum = 0;
            for (int n = 0; n < MOST_KEYS; n++) {
                if (nodes.keyOf(n) != NONE) {
                    sum += nodes.rankOf(n);
                }
            }
            return sum;
        }

        static int longSteps(Nodes nodes) {
            int many = 0;
            for (int n = 0; n < MOST_KEYS; n++) {
                if (nodes.keyOf(n) != NONE && n != nodes.top && nodes.step(nodes.parentOf(n), n) == 2) {
                    many++;
                }
            }
            return many;
        }

        static int firstWrong(Nodes nodes) {
            int n = nodes.top;
            for (int i = 0; i < nodes.count; i++) {
                if (!isRight(nodes, n)) {
                    return i;
                }
                n = nodes.nextByNumber(n);
            }
            return NONE;
        }

        private static boolean isRight(Nodes nodes, int n) {
            if (nodes.isLeaf(n)) {
                return nodes.rankOf(n) == 0;
            }
            int left = nodes.step(n, nodes.leftOf(n));
            int right = nodes.step(n, nodes.rightOf(n));
            return isWithin(left, 1, 2) && isWithin(right, 1, 2);
        }
    }

    /** Depths that a tree with so many keys could have. */
    private static final class Bounds {
        static int flat(int many) {
            int depth = 0;
            for (int room = 0; room < many && depth < MOST_KEYS; depth++) {
                room = 2 * room + 1;
            }
            return depth;
        }

        /**
         * The tallest tree of the fewest nodes has the least rank that its depth allows, steps of
         * 1 along its longest way, and beside that way, at steps of 2, trees of the fewest nodes
         * for their rank.
         */
        static int tall(int many) {
            int depth = 0;
            int fewest = 1;
            int side = 0;
            int nextSide = 1;
            while (depth < MOST_KEYS && fewest <= many) {
                depth++;
                fewest += 1 + side;
                int sideAfterNext = fewestOfRank(side);
                side = nextSide;
                nextSide = sideAfterNext;
            }
            return depth;
        }

        /** Two trees of rank two less will do, but a leaf has rank 0: rank 1 needs a child. */
        private static int fewestOfRank(int fewestOfTwoLess) {
            return fewestOfTwoLess == 0 ? 2 : 2 * fewestOfTwoLess + 1;
        }
    }
}
