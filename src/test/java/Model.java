import java.util.ArrayDeque;
import java.util.ArrayList;
import java.util.Deque;
import java.util.List;

/**
 * The document written a second time, as plainly as can be and otherwise than the program: nodes
 * that never change, without parents, mended on the way back up from a recursion.
 */
final class Model {
    static final int NONE = -1, UNKNOWN = -1000000001, OUTSIDE = -1000000002, NOT = -1000000003, FULL = -1000000004;

    record Node(int key, int worth, int rank, Node left, Node right) {
        Node rank(int r) {
            return new Node(key, worth, r, left, right);
        }

        Node left(Node l) {
            return new Node(key, worth, rank, l, right);
        }

        Node right(Node r) {
            return new Node(key, worth, rank, left, r);
        }

        boolean isLeaf() {
            return left == null && right == null;
        }
    }

    record Counts(int promoted, int demoted, int turns) {
        Counts plus(Counts o) {
            return new Counts(promoted + o.promoted, demoted + o.demoted, turns + o.turns);
        }

        int sum() {
            return promoted + demoted + turns;
        }
    }

    record State(Node top, Counts all, Counts latest) {
    }

    record Image(State state, long seed) {
    }

    private State state = new State(null, new Counts(0, 0, 0), new Counts(0, 0, 0));
    private long seed = 0;
    private final Deque<State> past = new ArrayDeque<>();
    private final Image[] images = new Image[2];
    private int promoted, demoted, turns;

    // ---- how a key comes and goes

    private static int rank(Node n) {
        return n == null ? -1 : n.rank;
    }

    private Node with(Node n, int key, int worth) {
        if (n == null) {
            return new Node(key, worth, 0, null, null);
        }
        if (key < n.key) {
            return risenLeft(n.left(with(n.left, key, worth)));
        }
        return risenRight(n.right(with(n.right, key, worth)));
    }

    private Node risenLeft(Node p) {
        Node x = p.left;
        if (p.rank != x.rank) {
            return p;
        }
        if (p.rank - rank(p.right) == 1) {
            promoted++;
            return p.rank(p.rank + 1);
        }
        Node y = x.right;
        if (x.rank - rank(y) == 2) {
            turns++;
            return x.right(p.left(y).rank(p.rank - 1));
        }
        turns += 2;
        return new Node(y.key, y.worth, y.rank + 1,
            x.right(y.left).rank(x.rank - 1), p.left(y.right).rank(p.rank - 1));
    }

    private Node risenRight(Node p) {
        Node x = p.right;
        if (p.rank != x.rank) {
            return p;
        }
        if (p.rank - rank(p.left) == 1) {
            promoted++;
            return p.rank(p.rank + 1);
        }
        Node y = x.left;
        if (x.rank - rank(y) == 2) {
            turns++;
            return x.left(p.right(y).rank(p.rank - 1));
        }
        turns += 2;
        return new Node(y.key, y.worth, y.rank + 1,
            p.right(y.left).rank(p.rank - 1), x.left(y.right).rank(x.rank - 1));
    }

    private Node without(Node n, int key) {
        if (key < n.key) {
            return sunkLeft(n.left(without(n.left, key)));
        }
        if (key > n.key) {
            return sunkRight(n.right(without(n.right, key)));
        }
        if (n.left == null) {
            return n.right;
        }
        if (n.right == null) {
            return n.left;
        }
        Node least = n.right;
        while (least.left != null) {
            least = least.left;
        }
        return sunkRight(new Node(least.key, least.worth, n.rank, n.left, without(n.right, least.key)));
    }

    private Node sunkLeft(Node p) {
        if (p.isLeaf() && p.rank == 1) {
            demoted++;
            return p.rank(0);
        }
        if (p.rank - rank(p.left) != 3) {
            return p;
        }
        Node y = p.right;
        if (p.rank - y.rank == 2) {
            demoted++;
            return p.rank(p.rank - 1);
        }
        if (y.rank - rank(y.left) == 2 && y.rank - rank(y.right) == 2) {
            demoted += 2;
            return p.right(y.rank(y.rank - 1)).rank(p.rank - 1);
        }
        if (y.rank - rank(y.right) == 1) {
            turns++;
            Node low = p.right(y.left).rank(p.rank - 1);
            return y.left(low.isLeaf() ? low.rank(low.rank - 1) : low).rank(y.rank + 1);
        }
        turns += 2;
        Node v = y.left;
        return new Node(v.key, v.worth, v.rank + 2,
            p.right(v.left).rank(p.rank - 2), y.left(v.right).rank(y.rank - 1));
    }

    private Node sunkRight(Node p) {
        if (p.isLeaf() && p.rank == 1) {
            demoted++;
            return p.rank(0);
        }
        if (p.rank - rank(p.right) != 3) {
            return p;
        }
        Node y = p.left;
        if (p.rank - y.rank == 2) {
            demoted++;
            return p.rank(p.rank - 1);
        }
        if (y.rank - rank(y.left) == 2 && y.rank - rank(y.right) == 2) {
            demoted += 2;
            return p.left(y.rank(y.rank - 1)).rank(p.rank - 1);
        }
        if (y.rank - rank(y.left) == 1) {
            turns++;
            Node low = p.left(y.right).rank(p.rank - 1);
            return y.right(low.isLeaf() ? low.rank(low.rank - 1) : low).rank(y.rank + 1);
        }
        turns += 2;
        Node v = y.right;
        return new Node(v.key, v.worth, v.rank + 2,
            y.right(v.left).rank(y.rank - 1), p.left(v.right).rank(p.rank - 2));
    }

    private void zero() {
        promoted = 0;
        demoted = 0;
        turns = 0;
    }

    private State added(State s, int key, int worth) {
        zero();
        Node top = with(s.top, key, worth);
        Counts latest = new Counts(promoted, demoted, turns);
        return new State(top, s.all.plus(latest), latest);
    }

    private State removed(State s, int key) {
        zero();
        Node top = without(s.top, key);
        Counts latest = new Counts(promoted, demoted, turns);
        return new State(top, s.all.plus(latest), latest);
    }

    // ---- looking at it

    private static void rising(Node n, List<Node> into) {
        if (n != null) {
            rising(n.left, into);
            into.add(n);
            rising(n.right, into);
        }
    }

    private static List<Node> rising(Node n) {
        List<Node> all = new ArrayList<>();
        rising(n, all);
        return all;
    }

    private static void numbered(Node n, List<Node> into) {
        if (n != null) {
            into.add(n);
            numbered(n.left, into);
            numbered(n.right, into);
        }
    }

    List<Node> numbered() {
        List<Node> all = new ArrayList<>();
        numbered(state.top, all);
        return all;
    }

    private static int depth(Node n) {
        return n == null ? 0 : 1 + Math.max(depth(n.left), depth(n.right));
    }

    private List<Node> wayTo(int key) {
        List<Node> way = new ArrayList<>();
        for (Node n = state.top; n != null; n = key < n.key ? n.left : n.right) {
            way.add(n);
            if (n.key == key) {
                return way;
            }
        }
        return null;
    }

    private int count() {
        return rising(state.top).size();
    }

    private boolean has(int key) {
        return wayTo(key) != null;
    }

    private static boolean in(int v, int from, int to) {
        return from <= v && v <= to;
    }

    private int costly() {
        int best = NONE;
        int most = -1;
        for (Node n : rising(state.top)) {
            int cost = removed(state, n.key).latest.sum();
            if (cost > most) {
                most = cost;
                best = n.key;
            }
        }
        return best;
    }

    private static final int[] FEWEST_FOR_DEPTH = fewestForDepth();

    /** By trying all pairs of children of all ranks and depths. */
    private static int[] fewestForDepth() {
        int ranks = 14;
        int depths = 14;
        int far = 100000;
        int[][] fewest = new int[ranks + 1][depths + 1];
        for (int r = -1; r < ranks; r++) {
            for (int d = 0; d <= depths; d++) {
                int best = r == -1 && d == 0 ? 0 : r == 0 && d == 1 ? 1 : far;
                for (int a = Math.max(-1, r - 2); r >= 1 && a < r; a++) {
                    for (int b = Math.max(-1, r - 2); b < r; b++) {
                        for (int e = 0; d >= 2 && e < d; e++) {
                            best = Math.min(best, 1 + fewest[a + 1][d - 1] + fewest[b + 1][e]);
                        }
                    }
                }
                fewest[r + 1][d] = Math.min(best, far);
            }
        }
        int[] answer = new int[depths + 1];
        for (int d = 0; d <= depths; d++) {
            answer[d] = far;
            for (int r = -1; r < ranks; r++) {
                answer[d] = Math.min(answer[d], fewest[r + 1][d]);
            }
        }
        return answer;
    }

    private static int tall(int keys) {
        int tall = 0;
        for (int d = 0; d < FEWEST_FOR_DEPTH.length; d++) {
            if (FEWEST_FOR_DEPTH[d] <= keys) {
                tall = d;
            }
        }
        return tall;
    }

    private static int flat(int keys) {
        int depth = 0;
        while ((1 << depth) - 1 < keys) {
            depth++;
        }
        return depth;
    }

    // ---- the face

    int told(int what) {
        Node top = state.top;
        List<Node> all = rising(top);
        switch (what) {
            case 0: return all.size();
            case 1: return top == null ? NONE : top.key;
            case 2: return top == null ? NONE : top.rank;
            case 3: return depth(top);
            case 4: return all.stream().mapToInt(Node::worth).sum();
            case 5: return state.all.promoted;
            case 6: return state.all.demoted;
            case 7: return state.all.turns;
            case 8: return state.latest.promoted;
            case 9: return state.latest.demoted;
            case 10: return state.latest.turns;
            case 11: return all.stream().mapToInt(Node::rank).sum();
            case 12: return (int) all.stream().mapToLong(n ->
                (n.left != null && n.rank - n.left.rank == 2 ? 1 : 0)
                + (n.right != null && n.rank - n.right.rank == 2 ? 1 : 0)).sum();
            case 13: return costly();
            case 14: return flat(all.size());
            case 15: return tall(all.size());
            case 16: return past.size();
            default: return OUTSIDE;
        }
    }

    int node(int n, int what) {
        List<Node> nodes = numbered();
        if (n < 0 || n >= nodes.size()) {
            return UNKNOWN;
        }
        Node it = nodes.get(n);
        List<Node> way = wayTo(it.key);
        switch (what) {
            case 0: return it.key;
            case 1: return it.rank;
            case 2: return way.size() - 1;
            case 3: return it.left == null ? NONE : nodes.indexOf(it.left);
            case 4: return it.right == null ? NONE : nodes.indexOf(it.right);
            case 5: return rising(it).size();
            case 6: return n == 0 ? NONE : way.get(way.size() - 2).rank - it.rank;
            default: return OUTSIDE;
        }
    }

    int key(int key, int what) {
        List<Node> way = wayTo(key);
        if (way == null) {
            return UNKNOWN;
        }
        Node it = way.get(way.size() - 1);
        switch (what) {
            case 0: return it.worth;
            case 1: return numbered().indexOf(it);
            case 2: return rising(state.top).indexOf(it);
            default: return OUTSIDE;
        }
    }

    int at(int k) {
        List<Node> all = rising(state.top);
        return k >= 0 && k < all.size() ? all.get(k).key : NONE;
    }

    private void deed() {
        past.addLast(state);
        if (past.size() > 12) {
            past.removeFirst();
        }
    }

    int put(int key, int worth) {
        if (!in(key, 0, 99999) || !in(worth, 0, 9999)) {
            return OUTSIDE;
        }
        if (has(key)) {
            return NOT;
        }
        if (count() == 60) {
            return FULL;
        }
        deed();
        state = added(state, key, worth);
        return state.latest.turns;
    }

    int take(int key) {
        if (!in(key, 0, 99999)) {
            return OUTSIDE;
        }
        if (!has(key)) {
            return NOT;
        }
        deed();
        int was = key(key, 0);
        state = removed(state, key);
        return was;
    }

    private static Node reworth(Node n, int key, int worth) {
        if (n.key == key) {
            return new Node(key, worth, n.rank, n.left, n.right);
        }
        return key < n.key ? n.left(reworth(n.left, key, worth)) : n.right(reworth(n.right, key, worth));
    }

    int worth(int key, int worth) {
        if (!has(key)) {
            return UNKNOWN;
        }
        if (!in(worth, 0, 9999)) {
            return OUTSIDE;
        }
        deed();
        int was = key(key, 0);
        state = new State(reworth(state.top, key, worth), state.all, state.latest);
        return was;
    }

    int cut(int key) {
        if (!in(key, 0, 100000)) {
            return OUTSIDE;
        }
        deed();
        int gone = 0;
        for (Node n : rising(state.top)) {
            if (n.key < key) {
                state = removed(state, n.key);
                gone++;
            }
        }
        return gone;
    }

    int batch(int n, int a, int d) {
        if (!in(n, 1, 30) || !in(a, 0, 99999) || !in(d, 1, 9999)) {
            return OUTSIDE;
        }
        deed();
        int came = 0;
        for (int key = a; n > 0 && key <= 99999; n--, key += d) {
            if (!has(key) && count() < 60) {
                state = added(state, key, 1);
                came++;
            }
        }
        return came;
    }

    int rebuild() {
        deed();
        List<Node> all = rising(state.top);
        state = new State(null, state.all, state.latest);
        for (Node n : all) {
            state = added(state, n.key, n.worth);
        }
        return depth(state.top);
    }

    int join(int i) {
        if (!in(i, 0, 1)) {
            return UNKNOWN;
        }
        if (images[i] == null) {
            return NOT;
        }
        deed();
        int came = 0;
        int greatest = beside(Integer.MAX_VALUE, 0);
        for (Node n : rising(images[i].state.top)) {
            if (n.key > greatest && count() < 60) {
                state = added(state, n.key, n.worth);
                came++;
            }
        }
        return came;
    }

    private int draw(int n) {
        seed = (seed * 1103515245L + 12345L) % (1L << 31);
        return (int) (seed / 65536 % n);
    }

    int drift(int n) {
        if (!in(n, 1, 12)) {
            return OUTSIDE;
        }
        for (int i = 0; i < n; i++) {
            deed();
            int kind = draw(3);
            int key = draw(200);
            if (kind < 2 && !has(key) && count() < 60) {
                state = added(state, key, draw(100));
            }
            if (kind == 2 && has(key)) {
                state = removed(state, key);
            }
        }
        return count();
    }

    int undo(int n) {
        if (!in(n, 1, 12)) {
            return OUTSIDE;
        }
        if (past.size() < n) {
            return NOT;
        }
        for (int i = 0; i < n; i++) {
            state = past.removeLast();
        }
        return count();
    }

    int less(int v) {
        return (int) rising(state.top).stream().filter(n -> n.key < v).count();
    }

    int beside(int v, int what) {
        if (what == 0) {
            return rising(state.top).stream().mapToInt(Node::key).filter(k -> k < v).max().orElse(NONE);
        }
        if (what == 1) {
            return rising(state.top).stream().mapToInt(Node::key).filter(k -> k > v).min().orElse(NONE);
        }
        return OUTSIDE;
    }

    int between(int a, int b, int what) {
        List<Node> some = rising(state.top).stream().filter(n -> n.key >= a && n.key <= b).toList();
        switch (what) {
            case 0: return some.size();
            case 1: return some.stream().mapToInt(Node::worth).sum();
            case 2:
                int most = some.stream().mapToInt(Node::worth).max().orElse(NONE);
                return some.stream().filter(n -> n.worth == most).mapToInt(Node::key).findFirst().orElse(NONE);
            default: return OUTSIDE;
        }
    }

    int way(int key, int i) {
        List<Node> way = wayTo(key);
        if (way == null) {
            return UNKNOWN;
        }
        return i >= 0 && i < way.size() ? way.get(i).key : NONE;
    }

    int audit(int n, int r) {
        List<Node> nodes = numbered();
        if (n < 0 || n >= nodes.size()) {
            return UNKNOWN;
        }
        if (!in(r, -1, 30)) {
            return OUTSIDE;
        }
        for (int i = 0; i < nodes.size(); i++) {
            Node it = nodes.get(i);
            int own = i == n ? r : it.rank;
            int left = own - (it.left == nodes.get(n) ? r : rank(it.left));
            int right = own - (it.right == nodes.get(n) ? r : rank(it.right));
            if (left < 1 || left > 2 || right < 1 || right > 2 || it.isLeaf() && own != 0) {
                return i;
            }
        }
        return NONE;
    }

    int seed(int v) {
        if (v < 0) {
            return OUTSIDE;
        }
        int was = (int) seed;
        seed = v;
        return was;
    }

    int keep(int i) {
        if (!in(i, 0, 1)) {
            return UNKNOWN;
        }
        images[i] = new Image(state, seed);
        past.clear();
        return 1;
    }

    int goBack(int i) {
        if (!in(i, 0, 1)) {
            return UNKNOWN;
        }
        if (images[i] == null) {
            return NOT;
        }
        state = images[i].state;
        seed = images[i].seed;
        past.clear();
        return 1;
    }
}
