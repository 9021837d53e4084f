import java.util.List;

/** The calls of the face by number, so that runs of them can be drawn or told by a text. */
final class Calls {
    static final String[] NAMES = {
        "told", "node", "key", "at", "put", "take", "worth", "cut", "batch", "rebuild", "join",
        "drift", "undo", "less", "beside", "between", "way", "audit", "seed", "keep", "goBack"};
    /** The promise of the first call; the others follow in order. */
    static final int FIRST_PROMISE = 2;
    private static final int[] ARGUMENTS = {1, 2, 2, 1, 2, 1, 2, 1, 3, 0, 1, 1, 1, 1, 2, 3, 2, 2, 1, 1, 1};

    private Calls() {
    }

    static int arguments(int which) {
        return ARGUMENTS[which];
    }

    static String text(int which, int[] a) {
        StringBuilder text = new StringBuilder(NAMES[which]).append('(');
        for (int i = 0; i < ARGUMENTS[which]; i++) {
            text.append(i == 0 ? "" : ", ").append(a[i]);
        }
        return text.append(')').toString();
    }

    /** Runs calls told as 'put 5 1; keep 0'. */
    static void run(String calls, RankIndex x, Model model) {
        for (String call : calls.split("; ")) {
            String[] words = call.split(" ");
            int[] a = new int[3];
            for (int i = 1; i < words.length; i++) {
                a[i - 1] = Integer.parseInt(words[i]);
            }
            int which = List.of(NAMES).indexOf(words[0]);
            ofProgram(x, which, a);
            ofModel(model, which, a);
        }
    }

    static int ofProgram(RankIndex x, int which, int[] a) {
        switch (NAMES[which]) {
            case "told": return x.told(a[0]);
            case "node": return x.node(a[0], a[1]);
            case "key": return x.key(a[0], a[1]);
            case "at": return x.at(a[0]);
            case "put": return x.put(a[0], a[1]);
            case "take": return x.take(a[0]);
            case "worth": return x.worth(a[0], a[1]);
            case "cut": return x.cut(a[0]);
            case "batch": return x.batch(a[0], a[1], a[2]);
            case "rebuild": return x.rebuild();
            case "join": return x.join(a[0]);
            case "drift": return x.drift(a[0]);
            case "undo": return x.undo(a[0]);
            case "less": return x.less(a[0]);
            case "beside": return x.beside(a[0], a[1]);
            case "between": return x.between(a[0], a[1], a[2]);
            case "way": return x.way(a[0], a[1]);
            case "audit": return x.audit(a[0], a[1]);
            case "seed": return x.seed(a[0]);
            case "keep": return x.keep(a[0]);
            default: return x.goBack(a[0]);
        }
    }

    static int ofModel(Model model, int which, int[] a) {
        switch (NAMES[which]) {
            case "told": return model.told(a[0]);
            case "node": return model.node(a[0], a[1]);
            case "key": return model.key(a[0], a[1]);
            case "at": return model.at(a[0]);
            case "put": return model.put(a[0], a[1]);
            case "take": return model.take(a[0]);
            case "worth": return model.worth(a[0], a[1]);
            case "cut": return model.cut(a[0]);
            case "batch": return model.batch(a[0], a[1], a[2]);
            case "rebuild": return model.rebuild();
            case "join": return model.join(a[0]);
            case "drift": return model.drift(a[0]);
            case "undo": return model.undo(a[0]);
            case "less": return model.less(a[0]);
            case "beside": return model.beside(a[0], a[1]);
            case "between": return model.between(a[0], a[1], a[2]);
            case "way": return model.way(a[0], a[1]);
            case "audit": return model.audit(a[0], a[1]);
            case "seed": return model.seed(a[0]);
            case "keep": return model.keep(a[0]);
            default: return model.goBack(a[0]);
        }
    }
}
