/**
 * Each call with each pairing of numbers about every bound of the document, on indexes from empty
 * to full, against the model: what is answered, and what is so then.
 */
public final class CornersTest {
    private static final Due DUE = new Due("CornersTest");
    private static final int LOW = Integer.MIN_VALUE;
    private static final int HIGH = Integer.MAX_VALUE;
    private static final int[] CORNERS = {
        LOW, LOW + 1, -1000000004, -1000000001, -2, -1, 0, 1, 2, 3, 4, 6, 7, 8, 11, 12, 13, 16, 17, 29, 30, 31, 32, 58, 59, 60, 61,
        118, 119, 120, 9998, 9999, 10000, 10001, 99998, 99999, 100000, 100001, 1073741824, HIGH - 1, HIGH};
    /** For calls with three numbers. */
    private static final int[] FEWER_CORNERS = {LOW, -1, 0, 1, 2, 3, 29, 30, 31, 60, 118, 9999, 10000, 99999, 100000, HIGH};
    private static final String[] STARTS = {
        "told 0",
        "put 0 9999",
        "put 99999 0; keep 1; put 0 9999; put 50000 1; seed 2147483647",
        "batch 12 0 1; take 3; keep 0; cut 4; put 119 8; worth 7 9; drift 2",
        "batch 30 0 2; seed 5; keep 0; batch 29 60 2",
        "batch 30 0 2; seed 5; keep 0; batch 30 60 2; rebuild; take 118; put 99999 9999",
        "drift 12; drift 12; keep 1; drift 12; drift 1"};

    public static void main(String[] args) {
        for (String start : STARTS) {
            for (int which = 0; which < Calls.NAMES.length; which++) {
                corners(start, which);
            }
        }
        DUE.end();
    }

    private static void corners(String start, int which) {
        int many = Calls.arguments(which);
        int[] numbers = many == 3 ? FEWER_CORNERS : CORNERS;
        for (int a = 0; a < (many > 0 ? numbers.length : 1); a++) {
            for (int b = 0; b < (many > 1 ? numbers.length : 1); b++) {
                for (int c = 0; c < (many > 2 ? numbers.length : 1); c++) {
                    corner(start, which, new int[] {numbers[a], numbers[b], numbers[c]});
                }
            }
        }
    }

    private static void corner(String start, int which, int[] a) {
        RankIndex x = new RankIndex();
        Model model = new Model();
        Calls.run(start, x, model);
        String call = "promise " + (which + Calls.FIRST_PROMISE) + ", after '" + start + "': " + Calls.text(which, a);
        int got = Calls.ofProgram(x, which, a);
        int want = Calls.ofModel(model, which, a);
        DUE.due(call, got, want);
        boolean mayHaveChanged = want >= 0 && a[0] >= 0;
        DUE.due(call + ", what is so then", mayHaveChanged ? nodes(x) : brief(x), mayHaveChanged ? nodes(model) : brief(model));
    }

    private static String brief(RankIndex x) {
        return x.told(0) + " " + x.told(1) + " " + x.told(4) + " " + Look.counts(x) + " " + x.told(11) + " " + x.told(16) + " " + x.seed(0);
    }

    private static String brief(Model m) {
        return m.told(0) + " " + m.told(1) + " " + m.told(4) + " " + m.told(5) + " " + m.told(6) + " " + m.told(7) + " / "
            + m.told(8) + " " + m.told(9) + " " + m.told(10) + " " + m.told(11) + " " + m.told(16) + " " + m.seed(0);
    }

    private static String nodes(RankIndex x) {
        StringBuilder text = new StringBuilder(brief(x));
        int keys = x.told(0);
        for (int n = 0; n < keys; n++) {
            int key = x.node(n, 0);
            text.append(' ').append(key).append(':').append(x.node(n, 1)).append('=').append(x.key(key, 0));
        }
        return text.toString();
    }

    private static String nodes(Model m) {
        StringBuilder text = new StringBuilder(brief(m));
        for (Model.Node node : m.numbered()) {
            text.append(' ').append(node.key()).append(':').append(node.rank()).append('=').append(node.worth());
        }
        return text.toString();
    }
}
