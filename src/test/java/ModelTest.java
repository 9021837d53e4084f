import java.util.Random;

/** Long runs of calls, drawn anew for each run but the same each time, against the model. */
public final class ModelTest {
    private static final Due DUE = new Due("ModelTest");
    private static final int RUNS = 1000;
    /** All that an object is made for. */
    private static final int LONG_RUN = 512;
    /** Leaves room for a look at everything at the end. */
    private static final int SHORT_RUN = 190;
    private static final int[] FAR = {Integer.MIN_VALUE, -1000000001, -2, -1, 60, 61, 99999, 100000, 100001, Integer.MAX_VALUE};
    /** How often each call comes, in the order of the names. */
    private static final int[] OFTEN = {24, 24, 6, 4, 24, 12, 4, 1, 3, 1, 2, 6, 4, 3, 4, 6, 4, 8, 1, 1, 1};

    private final Random random;
    private final RankIndex x = new RankIndex();
    private final Model model = new Model();
    private final int run;
    private final int reach;

    private ModelTest(int run) {
        this.run = run;
        random = new Random(run);
        // Few keys make them meet often, many make the tree full.
        reach = new int[] {12, 40, 90, 250, 100000}[run % 5];
    }

    public static void main(String[] args) {
        for (int run = 0; run < RUNS && DUE.isClean(); run++) {
            new ModelTest(run).play();
        }
        DUE.end();
    }

    private void play() {
        boolean isLong = run % 3 == 0;
        for (int i = 0; i < (isLong ? LONG_RUN : SHORT_RUN) && DUE.isClean(); i++) {
            int which = drawCall();
            int[] a = {argument(which, 0), argument(which, 1), argument(which, 2)};
            DUE.due("run " + run + ", call " + i + ": " + Calls.text(which, a),
                Calls.ofProgram(x, which, a), Calls.ofModel(model, which, a));
        }
        if (!isLong && DUE.isClean()) {
            DUE.due("run " + run + ", at its end", everythingOfProgram(), everythingOfModel());
        }
    }

    private int drawCall() {
        int sum = 0;
        for (int often : OFTEN) {
            sum += often;
        }
        int left = random.nextInt(sum);
        int which = 0;
        while (left >= OFTEN[which]) {
            left -= OFTEN[which];
            which++;
        }
        return which;
    }

    private int argument(int which, int place) {
        if (random.nextInt(40) == 0) {
            return FAR[random.nextInt(FAR.length)];
        }
        switch (Calls.NAMES[which] + place) {
            case "told0": return random.nextInt(19) - 1;
            case "node0": case "audit0": return random.nextInt(Math.max(1, model.told(0)) + 1);
            case "node1": return random.nextInt(9) - 1;
            case "key0": case "take0": case "worth0": case "way0": return nearKey();
            case "key1": return random.nextInt(5) - 1;
            case "at0": return random.nextInt(64) - 2;
            case "put0": return random.nextInt(reach);
            case "put1": case "worth1": return random.nextInt(random.nextBoolean() ? 5 : 10001);
            case "cut0": return random.nextInt(reach + 1) / (1 + random.nextInt(4));
            case "batch0": return random.nextInt(33) - 1;
            case "batch1": return random.nextInt(reach);
            case "batch2": return random.nextInt(reach == 100000 ? 10001 : 9);
            case "join0": case "keep0": case "goBack0": return random.nextInt(2);
            case "drift0": return random.nextInt(14);
            case "undo0": return random.nextInt(random.nextBoolean() ? 4 : 14);
            case "less0": case "beside0": case "between0": case "between1": return nearKey() + random.nextInt(3) - 1;
            case "beside1": return random.nextInt(4) - 1;
            case "between2": return random.nextInt(5) - 1;
            case "way1": return random.nextInt(10) - 1;
            case "audit1": return random.nextBoolean() ? random.nextInt(5) - 1 : random.nextInt(34) - 2;
            case "seed0": return random.nextInt() & (random.nextInt(8) == 0 ? -1 : Integer.MAX_VALUE);
            default: return 0;
        }
    }

    private int nearKey() {
        int keys = model.told(0);
        return keys == 0 || random.nextInt(5) == 0 ? random.nextInt(reach) : model.at(random.nextInt(keys));
    }

    private String everythingOfProgram() {
        StringBuilder text = new StringBuilder();
        for (int what = 0; what < 17; what++) {
            text.append(' ').append(x.told(what));
        }
        int keys = model.told(0);
        for (int n = 0; n < keys; n++) {
            text.append(" | ").append(x.node(n, 0)).append(' ').append(x.node(n, 1)).append(' ')
                .append(x.node(n, 3)).append(' ').append(x.node(n, 4)).append(' ').append(x.key(model.node(n, 0), 0));
        }
        return text.toString();
    }

    private String everythingOfModel() {
        StringBuilder text = new StringBuilder();
        for (int what = 0; what < 17; what++) {
            text.append(' ').append(model.told(what));
        }
        int keys = model.told(0);
        for (int n = 0; n < keys; n++) {
            text.append(" | ").append(model.node(n, 0)).append(' ').append(model.node(n, 1)).append(' ')
                .append(model.node(n, 3)).append(' ').append(model.node(n, 4)).append(' ').append(model.key(model.node(n, 0), 0));
        }
        return text.toString();
    }
}
