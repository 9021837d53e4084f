import java.util.ArrayDeque;
import java.util.ArrayList;
import java.util.Deque;
import java.util.HashSet;
import java.util.List;
import java.util.Set;
import java.util.TreeSet;

/**
 * Every tree of few keys that can come to be, and every way in which one key more comes to it or
 * one of its keys goes: all that can be seen of its nodes then, against the model.
 */
public final class ShapesTest {
    private static final Due DUE = new Due("ShapesTest");
    private static final int MOST_KEYS = 11;
    /** Those of 0 to 11 keys that can come to be while there are never more, counted by another program. */
    private static final int TREES = 658;
    /** Far above the ranks of so few keys: all ranks up to it are told to AUDIT. */
    private static final int MOST_TOLD_RANK = 6;

    /** Places stand for keys, as only their order matters: there is always one between two others. */
    private record Deed(boolean comes, double place) {
    }

    public static void main(String[] args) {
        Set<String> seen = new HashSet<>();
        Deque<List<Deed>> waiting = new ArrayDeque<>();
        waiting.add(List.of());
        seen.add("");
        while (!waiting.isEmpty() && DUE.isClean()) {
            List<Deed> path = waiting.removeFirst();
            for (Deed deed : deedsAfter(path)) {
                List<Deed> longer = new ArrayList<>(path);
                longer.add(deed);
                if (seen.add(shapeAfter(longer))) {
                    waiting.add(longer);
                }
            }
        }
        DUE.due("how many trees", seen.size(), TREES);
        DUE.end();
    }

    private static List<Deed> deedsAfter(List<Deed> path) {
        TreeSet<Double> there = new TreeSet<>();
        for (Deed deed : path) {
            if (deed.comes) {
                there.add(deed.place);
            } else {
                there.remove(deed.place);
            }
        }
        List<Deed> deeds = new ArrayList<>();
        for (double place : there) {
            deeds.add(new Deed(false, place));
        }
        if (there.size() == MOST_KEYS) {
            return deeds;
        }
        if (there.isEmpty()) {
            deeds.add(new Deed(true, 0));
            return deeds;
        }
        deeds.add(new Deed(true, there.first() - 1));
        for (double place : there) {
            Double next = there.higher(place);
            deeds.add(new Deed(true, next == null ? place + 1 : (place + next) / 2));
        }
        return deeds;
    }

    private static String shapeAfter(List<Deed> path) {
        RankIndex x = new RankIndex();
        Model model = new Model();
        TreeSet<Double> places = new TreeSet<>();
        path.forEach(deed -> places.add(deed.place));
        StringBuilder told = new StringBuilder();
        for (Deed deed : path) {
            int key = 3 * places.headSet(deed.place).size();
            told.append(deed.comes ? " put " : " take ").append(key);
            DUE.due("after" + told, deed.comes ? x.put(key, key % 5) : x.take(key),
                deed.comes ? model.put(key, key % 5) : model.take(key));
        }
        lookAtAll(told.toString(), x, model);
        return shape(model.numbered().isEmpty() ? null : model.numbered().get(0));
    }

    private static void lookAtAll(String told, RankIndex x, Model model) {
        for (int what = 0; what <= 16; what++) {
            DUE.due("after" + told + ": told(" + what + ")", x.told(what), model.told(what));
        }
        int keys = model.told(0);
        for (int n = 0; n < keys; n++) {
            for (int what = 0; what <= 6; what++) {
                DUE.due("after" + told + ": node(" + n + ", " + what + ")", x.node(n, what), model.node(n, what));
            }
            DUE.due("after" + told + ": all are right", x.audit(n, model.node(n, 1)), RankIndex.NONE);
            for (int rank = -1; rank <= MOST_TOLD_RANK; rank++) {
                DUE.due("after" + told + ": audit(" + n + ", " + rank + ")", x.audit(n, rank), model.audit(n, rank));
            }
        }
    }

    private static String shape(Model.Node node) {
        return node == null ? "" : "(" + node.rank() + shape(node.left()) + "," + shape(node.right()) + ")";
    }
}
