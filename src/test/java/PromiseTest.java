import java.math.BigInteger;

/** One part for each promise of the document: ordinary inputs, edges, wrong inputs. */
public final class PromiseTest {
    private static final int NONE = RankIndex.NONE;
    private static final int UNKNOWN = RankIndex.UNKNOWN;
    private static final int OUTSIDE = RankIndex.OUTSIDE;
    private static final int NOT = RankIndex.NOT;
    private static final int FULL = RankIndex.FULL;
    private static final int LOW = Integer.MIN_VALUE;
    private static final int HIGH = Integer.MAX_VALUE;
    /** The least numbers of keys with which TALL is 1, 2, 3 and so on. */
    private static final int[] TALL_FROM = {1, 2, 4, 7, 11, 17, 25, 37, 53};
    private static final Due DUE = new Due("PromiseTest");

    public static void main(String[] args) {
        promise1NewObject();
        promise2Told();
        promise2Depths();
        promise2Costly();
        promise3Node();
        promise4Key();
        promise5At();
        promise6Put();
        promise7Take();
        promise8Worth();
        promise9Cut();
        promise10Batch();
        promise11Rebuild();
        promise12Join();
        promise13Drift();
        promise14Undo();
        promise15Less();
        promise16Beside();
        promise17Between();
        promise18Way();
        promise19Audit();
        promise20Seed();
        promise21Keep();
        promise22GoBack();
        DUE.end();
    }

    private static void due(String call, long got, long want) {
        DUE.due(call, got, want);
    }

    private static RankIndex eight() {
        return Starts.eight();
    }

    private static RankIndex full() {
        return Starts.full();
    }

    private static void promise1NewObject() {
        RankIndex x = new RankIndex();
        due("new: KEYS", x.told(0), 0);
        due("new: at(0)", x.at(0), NONE);
        due("new: node(0, 0)", x.node(0, 0), UNKNOWN);
        due("new: key(0, 0)", x.key(0, 0), UNKNOWN);
        due("new: less(100000)", x.less(100000), 0);
        due("new: undo(1)", x.undo(1), NOT);
        due("new: join(0)", x.join(0), NOT);
        due("new: goBack(1)", x.goBack(1), NOT);
        due("new: seed(5)", x.seed(5), 0);
        RankIndex other = eight();
        due("an object beside another", x.told(0), 0);
        due("the other", other.told(0), 8);
    }

    private static void promise2Told() {
        int[] empty = {0, NONE, NONE, 0, 0, 0, 0, 0, 0, 0, 0, 0, 0, NONE, 0, 0, 0};
        int[] eight = {8, 50, 3, 4, 41, 7, 0, 0, 3, 0, 0, 7, 2, 50, 4, 4, 8};
        for (int what = 0; what < 17; what++) {
            due("empty: told(" + what + ")", new RankIndex().told(what), empty[what]);
            due("eight: told(" + what + ")", eight().told(what), eight[what]);
        }
        for (int what : new int[] {-1, 17, 18, LOW, HIGH}) {
            due("told(" + what + ")", eight().told(what), OUTSIDE);
            due("empty: told(" + what + ")", new RankIndex().told(what), OUTSIDE);
        }
        RankIndex x = eight();
        x.take(10);
        x.take(30);
        DUE.due("counts of all and of the latest", Look.counts(x), "7 1 1 / 0 1 1");
        x.put(1, 9999);
        DUE.due("all go on, the latest begin anew", Look.counts(x), "8 1 1 / 1 0 0");
        due("WORTH of all", x.told(4), 41 - 1 - 3 + 9999);
        x.worth(1, 3);
        DUE.due("a WORTH is no PUT", Look.counts(x), "8 1 1 / 1 0 0");
        x.take(2);
        x.put(1, 1);
        x.cut(0);
        DUE.due("nothing was PUT or TAKEN", Look.counts(x), "8 1 1 / 1 0 0");
        DUE.due("all ranks", Look.shape(x), "70:3(50:2(20:1(1:0,-),60:0),80:1(-,90:0))");
        due("RANKS together", x.told(11), 7);
        due("STEPS of 2", x.told(12), 2);
    }

    private static void promise2Depths() {
        RankIndex x = new RankIndex();
        int flat = 0;
        int tall = 0;
        for (int keys = 0; keys <= 60; keys++) {
            if (keys > 0) {
                x.put(keys * 7, keys);
            }
            if (keys == 1 << flat) {
                flat++;
            }
            if (tall < TALL_FROM.length && keys == TALL_FROM[tall]) {
                tall++;
            }
            due(keys + " KEYS", x.told(0), keys);
            due(keys + " KEYS: FLAT", x.told(14), flat);
            due(keys + " KEYS: TALL", x.told(15), tall);
        }
        due("60 KEYS: told(16)", x.told(16), 12);
        for (int keys = 59; keys >= 0; keys--) {
            x.take(x.at(0));
            due(keys + " KEYS again: FLAT", x.told(14), 32 - Integer.numberOfLeadingZeros(keys));
        }
        due("none again: DEPTH", x.told(3), 0);
        due("none again: the top", x.told(1), NONE);
        due("none again: its RANK", x.told(2), NONE);
    }

    private static void promise2Costly() {
        RankIndex x = new RankIndex();
        x.put(7, 0);
        due("one KEY costs nothing, but it is the one", x.told(13), 7);
        x.put(5, 0);
        // 7:1(5:0,-): 5 gone, 7 is demoted; 7 gone, nothing is
        due("two KEYS", x.told(13), 5);
        x.put(9, 0);
        due("three KEYS, none costs: the least", x.told(13), 5);
        RankIndex y = new RankIndex();
        for (int key : new int[] {2, 1, 4, 3}) {
            y.put(key, 0);
        }
        // 2:2(1:0,4:1(3:0,-)): 1 gone, there are two TURNS; 3 gone, one is demoted
        due("TURNS cost", y.told(13), 1);
        RankIndex z = new RankIndex();
        for (int key : new int[] {4, 2, 6, 1, 3, 5, 7, 8}) {
            z.put(key, 0);
        }
        z.take(8);
        z.take(1);
        // 4:3(2:1(-,3:0),6:2(5:0,7:0)): 3 gone, three are demoted; 4 gone, one
        due("demoted ones cost", z.told(13), 3);
        String before = Look.now(z);
        z.told(13);
        DUE.due("told(13) changes nothing", Look.now(z), before);
        costlyByTrying(full());
        costlyByTrying(eight());
    }

    private static void costlyByTrying(RankIndex x) {
        int costly = x.told(13);
        int most = -1;
        int found = NONE;
        int keys = x.told(0);
        for (int k = 0; k < keys; k++) {
            int key = x.at(k);
            x.take(key);
            int cost = x.told(8) + x.told(9) + x.told(10);
            if (cost > most) {
                most = cost;
                found = key;
            }
            x.undo(1);
        }
        due("COSTLY of " + keys, costly, found);
    }

    private static void promise3Node() {
        int[][] nodes = {
            {50, 3, 0, 1, 4, 8, NONE},
            {20, 1, 1, 2, 3, 3, 2},
            {10, 0, 2, NONE, NONE, 1, 1},
            {30, 0, 2, NONE, NONE, 1, 1},
            {70, 2, 1, 5, 6, 4, 1},
            {60, 0, 2, NONE, NONE, 1, 2},
            {80, 1, 2, NONE, 7, 2, 1},
            {90, 0, 3, NONE, NONE, 1, 1}};
        RankIndex x = eight();
        for (int n = 0; n < 8; n++) {
            for (int what = 0; what < 7; what++) {
                due("node(" + n + ", " + what + ")", x.node(n, what), nodes[n][what]);
            }
            due("node(" + n + ", 7)", x.node(n, 7), OUTSIDE);
            due("node(" + n + ", -1)", x.node(n, -1), OUTSIDE);
        }
        for (int n : new int[] {-1, 8, 60, LOW, HIGH}) {
            due("node(" + n + ", 0)", x.node(n, 0), UNKNOWN);
            due("UNKNOWN comes first: node(" + n + ", 9)", x.node(n, 9), UNKNOWN);
        }
        due("node(0, HIGH)", x.node(0, HIGH), OUTSIDE);
        due("node(0, LOW)", x.node(0, LOW), OUTSIDE);
        due("the 60th NODE", full().node(59, 0), 118);
        due("none behind it", full().node(60, 0), UNKNOWN);
    }

    private static void promise4Key() {
        RankIndex x = eight();
        int[] numbers = {2, 1, 3, 0, 5, 4, 6, 7};
        int[] keys = {10, 20, 30, 50, 60, 70, 80, 90};
        for (int k = 0; k < 8; k++) {
            due("key(" + keys[k] + ", 0)", x.key(keys[k], 0), keys[k] / 10);
            due("key(" + keys[k] + ", 1)", x.key(keys[k], 1), numbers[k]);
            due("key(" + keys[k] + ", 2)", x.key(keys[k], 2), k);
            due("key(" + keys[k] + ", 3)", x.key(keys[k], 3), OUTSIDE);
            due("key(" + keys[k] + ", -1)", x.key(keys[k], -1), OUTSIDE);
        }
        for (int key : new int[] {0, 11, 91, -1, 100000, LOW, HIGH}) {
            due("key(" + key + ", 0)", x.key(key, 0), UNKNOWN);
            due("UNKNOWN comes first: key(" + key + ", 3)", x.key(key, 3), UNKNOWN);
        }
        x.take(10);
        due("key(10, 0), taken", x.key(10, 0), UNKNOWN);
    }

    private static void promise5At() {
        RankIndex x = eight();
        int[] keys = {10, 20, 30, 50, 60, 70, 80, 90};
        for (int k = 0; k < 8; k++) {
            due("at(" + k + ")", x.at(k), keys[k]);
        }
        for (int k : new int[] {-1, 8, 59, 60, LOW, HIGH}) {
            due("at(" + k + ")", x.at(k), NONE);
        }
        due("full: at(59)", full().at(59), 118);
        due("full: at(60)", full().at(60), NONE);
    }

    private static void promise6Put() {
        RankIndex x = new RankIndex();
        due("put(30, 0)", x.put(30, 0), 0);
        due("put(10, 9999)", x.put(10, 9999), 0);
        due("two TURNS", x.put(20, 5), 2);
        due("put(5, 1)", x.put(5, 1), 0);
        due("one TURN", x.put(1, 1), 1);
        due("put(0, 0)", x.put(0, 0), 1);
        due("put(99999, 7)", x.put(99999, 7), 0);
        DUE.due("keys", Look.keys(x), "0=0 1=1 5=1 10=9999 20=5 30=0 99999=7");
        for (int key : new int[] {-1, 100000, LOW, HIGH}) {
            due("put(" + key + ", 0)", x.put(key, 0), OUTSIDE);
        }
        for (int worth : new int[] {-1, 10000, LOW, HIGH}) {
            due("put(50, " + worth + ")", x.put(50, worth), OUTSIDE);
            due("OUTSIDE comes before NOT: put(30, " + worth + ")", x.put(30, worth), OUTSIDE);
        }
        due("put(30, 7)", x.put(30, 7), NOT);
        RankIndex y = full();
        due("full: OUTSIDE comes first", y.put(1, -1), OUTSIDE);
        due("full: NOT comes before FULL", y.put(0, 1), NOT);
        due("full: put(1, 1)", y.put(1, 1), FULL);
        y.take(0);
        due("there is room again", y.put(1, 1) >= 0 ? 1 : 0, 1);
    }

    private static void promise7Take() {
        RankIndex x = eight();
        for (int key : new int[] {-1, 100000, LOW, HIGH}) {
            due("take(" + key + ")", x.take(key), OUTSIDE);
        }
        for (int key : new int[] {0, 11, 99999}) {
            due("take(" + key + ")", x.take(key), NOT);
        }
        due("take(90)", x.take(90), 9);
        due("take(90) again", x.take(90), NOT);
        due("take(50), with two CHILDREN", x.take(50), 5);
        DUE.due("the least below its RIGHT one", Look.shape(x), "60:3(20:1(10:0,30:0),70:1(-,80:0))");
        DUE.due("keys", Look.keys(x), "10=1 20=2 30=3 60=6 70=7 80=8");
        due("empty: take(0)", new RankIndex().take(0), NOT);
        RankIndex y = new RankIndex();
        y.put(0, 0);
        y.put(99999, 9999);
        due("take(99999)", y.take(99999), 9999);
        due("take(0)", y.take(0), 0);
        due("none left", y.told(0), 0);
    }

    private static void promise8Worth() {
        RankIndex x = eight();
        String shape = Look.shape(x);
        String counts = Look.counts(x);
        due("worth(30, 9999)", x.worth(30, 9999), 3);
        due("worth(30, 0)", x.worth(30, 0), 9999);
        due("worth(30, 0) again", x.worth(30, 0), 0);
        due("worth(80, 1)", x.worth(80, 1), 8);
        DUE.due("keys", Look.keys(x), "10=1 20=2 30=0 50=5 60=6 70=7 80=1 90=9");
        DUE.due("the tree stays", Look.shape(x), shape);
        DUE.due("the counts stay", Look.counts(x), counts);
        due("four deeds more", x.told(16), 12);
        for (int key : new int[] {31, -1, 100000, LOW, HIGH}) {
            due("worth(" + key + ", 1)", x.worth(key, 1), UNKNOWN);
        }
        due("UNKNOWN comes first", x.worth(31, -1), UNKNOWN);
        for (int worth : new int[] {-1, 10000, LOW, HIGH}) {
            due("worth(30, " + worth + ")", x.worth(30, worth), OUTSIDE);
        }
    }

    private static void promise9Cut() {
        RankIndex x = eight();
        due("cut(10): none is less", x.cut(10), 0);
        due("it is a deed", x.told(16), 9);
        DUE.due("no TAKEN", Look.counts(x), "7 0 0 / 3 0 0");
        due("cut(31)", x.cut(31), 3);
        DUE.due("keys", Look.keys(x), "50=5 60=6 70=7 80=8 90=9");
        RankIndex y = eight();
        y.take(10);
        y.take(20);
        y.take(30);
        DUE.due("as if taken one by one, rising", Look.tree(x), Look.tree(y));
        for (int key : new int[] {-1, 100001, LOW, HIGH}) {
            due("cut(" + key + ")", x.cut(key), OUTSIDE);
        }
        x.put(99999, 1);
        due("cut(99999)", x.cut(99999), 5);
        due("cut(100000)", x.cut(100000), 1);
        due("cut(0) of none", x.cut(0), 0);
        due("one undo brings the latest back", x.undo(2), 1);
    }

    private static void promise10Batch() {
        RankIndex x = new RankIndex();
        due("batch(3, 10, 5)", x.batch(3, 10, 5), 3);
        DUE.due("keys", Look.keys(x), "10=1 15=1 20=1");
        x.worth(20, 7);
        due("batch(4, 14, 3): one is there", x.batch(4, 14, 3), 3);
        DUE.due("it keeps its WORTH", Look.keys(x), "10=1 14=1 15=1 17=1 20=7 23=1");
        RankIndex y = new RankIndex();
        for (int key : new int[] {10, 15, 20, 14, 17, 23}) {
            y.put(key, key == 20 ? 7 : 1);
        }
        DUE.due("as if put one by one", Look.tree(x), Look.tree(y));
        due("batch(2, 99999, 9999): one is above", x.batch(2, 99999, 9999), 1);
        due("batch(1, 99999, 1): none comes", x.batch(1, 99999, 1), 0);
        due("five deeds", x.told(16), 5);
        due("batch(30, 0, 9999)", x.batch(30, 0, 9999), 11);
        for (int n : new int[] {0, 31, -1, LOW, HIGH}) {
            due("batch(" + n + ", 0, 1)", x.batch(n, 0, 1), OUTSIDE);
        }
        for (int a : new int[] {-1, 100000, LOW, HIGH}) {
            due("batch(1, " + a + ", 1)", x.batch(1, a, 1), OUTSIDE);
        }
        for (int d : new int[] {0, 10000, -1, LOW, HIGH}) {
            due("batch(1, 0, " + d + ")", x.batch(1, 0, d), OUTSIDE);
        }
        RankIndex z = new RankIndex();
        due("batch(30, 0, 1)", z.batch(30, 0, 1), 30);
        due("batch(25, 1000, 1)", z.batch(25, 1000, 1), 25);
        due("there is room for 5", z.batch(30, 500, 2), 5);
        DUE.due("the first 5 came", z.at(34) + " " + z.at(35), "508 1000");
        due("no room", z.batch(30, 40, 1), 0);
        due("full", z.told(0), 60);
    }

    private static void promise11Rebuild() {
        RankIndex x = eight();
        due("rebuild()", x.rebuild(), 4);
        DUE.due("rising", Look.shape(x), "50:3(20:1(10:0,30:0),70:2(60:0,80:1(-,90:0)))");
        DUE.due("with their WORTH", Look.keys(x), "10=1 20=2 30=3 50=5 60=6 70=7 80=8 90=9");
        DUE.due("counts go on", Look.counts(x), "18 0 4 / 3 0 0");
        RankIndex y = new RankIndex();
        for (int key : new int[] {3, 2, 1, 5}) {
            y.put(key, key);
        }
        DUE.due("before", Look.shape(y), "2:2(1:0,3:1(-,5:0))");
        y.put(6, 6);
        y.take(1);
        DUE.due("before", Look.shape(y), "5:2(2:1(-,3:0),6:0)");
        due("rebuild()", y.rebuild(), 3);
        DUE.due("after", Look.shape(y), "3:2(2:0,5:1(-,6:0))");
        due("it is a deed", y.told(16), 7);
        y.undo(1);
        DUE.due("undone", Look.shape(y), "5:2(2:1(-,3:0),6:0)");
        RankIndex z = new RankIndex();
        z.put(1, 1);
        z.put(2, 1);
        z.take(2);
        z.take(1);
        String counts = Look.counts(z);
        due("rebuild() of none", z.rebuild(), 0);
        DUE.due("no PUT", Look.counts(z), counts);
        due("it is a deed", z.told(16), 5);
        due("full", full().rebuild(), 6);
    }

    private static void promise12Join() {
        RankIndex x = eight();
        due("join(0)", x.join(0), NOT);
        due("join(1)", x.join(1), NOT);
        for (int i : new int[] {-1, 2, LOW, HIGH}) {
            due("join(" + i + ")", x.join(i), UNKNOWN);
        }
        x.keep(1);
        due("another was not kept", x.join(0), NOT);
        due("none is greater", x.join(1), 0);
        due("it is a deed", x.told(16), 1);
        x.take(90);
        x.take(70);
        x.worth(60, 99);
        x.take(80);
        due("all above 60", x.join(1), 3);
        DUE.due("with their WORTH", Look.keys(x), "10=1 20=2 30=3 50=5 60=99 70=7 80=8 90=9");
        RankIndex y = eight();
        y.take(90);
        y.take(70);
        y.worth(60, 99);
        y.take(80);
        for (int key = 70; key <= 90; key += 10) {
            y.put(key, key / 10);
        }
        DUE.due("as if put rising", Look.tree(x), Look.tree(y));
        x.cut(100000);
        due("an empty tree: all", x.join(1), 8);
        due("the IMAGE stays", x.goBack(1), 1);
        DUE.due("the IMAGE is as it was", Look.tree(x), Look.tree(eight()));
        joinAsThereIsRoom();
    }

    private static void joinAsThereIsRoom() {
        RankIndex x = new RankIndex();
        x.batch(30, 1000, 3);
        x.keep(0);
        x.cut(100000);
        x.batch(30, 0, 1);
        x.batch(17, 100, 1);
        due("as there is room", x.join(0), 13);
        due("the greatest that came", x.at(59), 1036);
        due("no room", x.join(0), 0);
        x.take(0);
        due("room for one", x.join(0), 1);
        due("the next one came", x.at(59), 1039);
    }

    private static void promise13Drift() {
        for (int start : new int[] {0, 1, 197, 65536, HIGH}) {
            driftAgainstDraws(start);
        }
        RankIndex x = eight();
        x.seed(77);
        for (int n : new int[] {0, 13, -1, LOW, HIGH}) {
            due("drift(" + n + ")", x.drift(n), OUTSIDE);
        }
        x.keep(0);
        x.drift(5);
        due("each time is a deed", x.told(16), 5);
        x.drift(12);
        due("each time is a deed", x.told(16), 12);
        driftWithoutRoom();
    }

    private static final BigInteger[] SEED = new BigInteger[1];

    private static int draw(int n) {
        SEED[0] = SEED[0].multiply(BigInteger.valueOf(1103515245)).add(BigInteger.valueOf(12345)).mod(BigInteger.TWO.pow(31));
        return SEED[0].divide(BigInteger.valueOf(65536)).mod(BigInteger.valueOf(n)).intValue();
    }

    private static void driftAgainstDraws(int start) {
        SEED[0] = BigInteger.valueOf(start);
        RankIndex x = new RankIndex();
        RankIndex y = new RankIndex();
        x.seed(start);
        for (int times = 1; times <= 12; times++) {
            for (int i = 0; i < times; i++) {
                int kind = draw(3);
                int key = draw(200);
                if (kind == 2) {
                    y.take(key);
                } else if (y.key(key, 0) == UNKNOWN) {
                    y.put(key, draw(100));
                }
            }
            due("seed " + start + ": drift(" + times + ")", x.drift(times), y.told(0));
        }
        due("THE SEED then", x.seed(0), SEED[0].intValue());
        DUE.due("seed " + start + ": the tree", Look.tree(x), Look.tree(y));
    }

    private static void driftWithoutRoom() {
        RankIndex x = new RankIndex();
        x.batch(30, 1000, 1);
        x.batch(30, 2000, 1);
        SEED[0] = BigInteger.valueOf(5);
        x.seed(5);
        for (int i = 0; i < 60; i++) {
            // nothing drawn is there, so that nothing is TAKEN, and no WORTH is drawn
            draw(3);
            draw(200);
        }
        for (int i = 0; i < 5; i++) {
            due("no room: drift(12)", x.drift(12), 60);
        }
        due("no WORTH was drawn", x.seed(0), SEED[0].intValue());
    }

    private static RankIndex falling(int keys) {
        RankIndex x = new RankIndex();
        for (int i = 0; i < keys; i++) {
            due("deeds that can be undone", x.told(16), Math.min(i, 12));
            x.put(100 - i, i);
        }
        return x;
    }

    private static void promise14Undo() {
        RankIndex x = falling(21);
        x.seed(99);
        due("undo(1): KEYS", x.undo(1), 20);
        DUE.due("one undone", Look.tree(x), Look.tree(falling(20)));
        due("11 left", x.told(16), 11);
        due("undo(3): KEYS", x.undo(3), 17);
        DUE.due("four undone", Look.tree(x), Look.tree(falling(17)));
        due("undo(9): 8 left", x.undo(9), NOT);
        due("undo(12): 8 left", x.undo(12), NOT);
        for (int n : new int[] {0, 13, -1, LOW, HIGH}) {
            due("undo(" + n + ")", x.undo(n), OUTSIDE);
        }
        x.put(7, 7);
        due("undo(9): KEYS", x.undo(9), 9);
        due("all 12 undone", x.told(16), 0);
        due("THE SEED stays", x.seed(0), 99);
        due("undo(1)", x.undo(1), NOT);
    }

    private static void promise15Less() {
        RankIndex x = eight();
        int[][] pairs = {{LOW, 0}, {-1, 0}, {0, 0}, {10, 0}, {11, 1}, {20, 1}, {50, 3}, {51, 4}, {90, 7}, {91, 8}, {100000, 8}, {HIGH, 8}};
        for (int[] pair : pairs) {
            due("less(" + pair[0] + ")", x.less(pair[0]), pair[1]);
        }
        due("empty: less(HIGH)", new RankIndex().less(HIGH), 0);
        due("full: less(HIGH)", full().less(HIGH), 60);
    }

    private static void promise16Beside() {
        RankIndex x = eight();
        int[][] rows = {{LOW, NONE, 10}, {-1, NONE, 10}, {0, NONE, 10}, {10, NONE, 20}, {11, 10, 20}, {50, 30, 60}, {55, 50, 60},
            {60, 50, 70}, {89, 80, 90}, {90, 80, NONE}, {91, 90, NONE}, {HIGH, 90, NONE}};
        for (int[] row : rows) {
            due("beside(" + row[0] + ", 0)", x.beside(row[0], 0), row[1]);
            due("beside(" + row[0] + ", 1)", x.beside(row[0], 1), row[2]);
            due("beside(" + row[0] + ", 2)", x.beside(row[0], 2), OUTSIDE);
            due("beside(" + row[0] + ", -1)", x.beside(row[0], -1), OUTSIDE);
        }
        due("empty: beside(5, 0)", new RankIndex().beside(5, 0), NONE);
        due("empty: beside(5, 1)", new RankIndex().beside(5, 1), NONE);
        due("empty: beside(5, 2)", new RankIndex().beside(5, 2), OUTSIDE);
        x.put(0, 1);
        due("KEY 0: beside(1, 0)", x.beside(1, 0), 0);
        due("KEY 0: beside(-1, 1)", x.beside(-1, 1), 0);
    }

    private static void promise17Between() {
        RankIndex x = eight();
        x.worth(20, 6);
        x.worth(70, 6);
        // 10=1 20=6 30=3 50=5 60=6 70=6 80=8 90=9
        int[][] rows = {{LOW, HIGH, 8, 44, 90}, {10, 90, 8, 44, 90}, {11, 89, 6, 34, 80}, {20, 70, 5, 26, 20}, {21, 70, 4, 20, 60},
            {30, 50, 2, 8, 50}, {50, 50, 1, 5, 50}, {51, 59, 0, 0, NONE}, {60, 50, 0, 0, NONE}, {-5, 9, 0, 0, NONE},
            {91, 100000, 0, 0, NONE}, {HIGH, LOW, 0, 0, NONE}, {-1, 10, 1, 1, 10}};
        for (int[] row : rows) {
            for (int what = 0; what < 3; what++) {
                due("between(" + row[0] + ", " + row[1] + ", " + what + ")", x.between(row[0], row[1], what), row[2 + what]);
            }
            due("between(" + row[0] + ", " + row[1] + ", 3)", x.between(row[0], row[1], 3), OUTSIDE);
            due("between(" + row[0] + ", " + row[1] + ", -1)", x.between(row[0], row[1], -1), OUTSIDE);
        }
        RankIndex y = new RankIndex();
        due("empty: between(0, 9, 0)", y.between(0, 9, 0), 0);
        due("empty: between(0, 9, 1)", y.between(0, 9, 1), 0);
        due("empty: between(0, 9, 2)", y.between(0, 9, 2), NONE);
        y.put(4, 0);
        y.put(2, 0);
        due("WORTH 0 is the most, the least KEY", y.between(0, 9, 2), 2);
        due("WORTH 0 together", y.between(0, 9, 1), 0);
    }

    private static void promise18Way() {
        RankIndex x = eight();
        int[][] ways = {{50}, {50, 20}, {50, 20, 10}, {50, 20, 30}, {50, 70}, {50, 70, 60}, {50, 70, 80}, {50, 70, 80, 90}};
        for (int[] way : ways) {
            int key = way[way.length - 1];
            for (int i = 0; i < way.length; i++) {
                due("way(" + key + ", " + i + ")", x.way(key, i), way[i]);
            }
            for (int i : new int[] {way.length, -1, 60, LOW, HIGH}) {
                due("way(" + key + ", " + i + ")", x.way(key, i), NONE);
            }
        }
        for (int key : new int[] {55, 0, -1, 100000, LOW, HIGH}) {
            due("way(" + key + ", 0)", x.way(key, 0), UNKNOWN);
            due("way(" + key + ", -1)", x.way(key, -1), UNKNOWN);
        }
    }

    private static void promise19Audit() {
        // 50:3(20:1(10:0,30:0),70:2(60:0,80:1(-,90:0)))
        int[][] rows = {{0, 3, NONE}, {0, 2, 0}, {0, 4, 0}, {0, -1, 0}, {0, 30, 0},
            {1, 1, NONE}, {1, 2, NONE}, {1, 3, 0}, {1, 0, 0}, {2, 0, NONE}, {2, 1, 1}, {2, -1, 2}, {3, -1, 3}, {3, 1, 1}, {3, -1, 3},
            {4, 2, NONE}, {4, 1, 4}, {4, 3, 0}, {4, 0, 0}, {5, 0, NONE}, {5, 1, 5}, {5, 2, 4}, {5, -1, 4},
            {6, 1, NONE}, {6, 0, 6}, {6, 2, 4}, {7, 0, NONE}, {7, -1, 7}, {7, 1, 6}, {7, 30, 6}};
        RankIndex x = eight();
        String before = Look.now(x);
        for (int[] row : rows) {
            due("audit(" + row[0] + ", " + row[1] + ")", x.audit(row[0], row[1]), row[2]);
        }
        DUE.due("audit changes nothing", Look.now(x), before);
        auditRefusals(x);
        // 2:2(1:0,3:0): a CHILD that there is not has a STEP too
        RankIndex y = new RankIndex();
        for (int key : new int[] {2, 1, 3, 4}) {
            y.put(key, 0);
        }
        due("a NODE with one CHILD: audit(2, 1)", y.audit(2, 1), NONE);
        due("a NODE with one CHILD: audit(2, 2)", y.audit(2, 2), 0);
        y.take(1);
        y.take(4);
        DUE.due("two are left", Look.shape(y), "3:1(2:0,-)");
        due("the one that is not there is 3 below: audit(0, 2)", y.audit(0, 2), 0);
        due("audit(0, 1)", y.audit(0, 1), NONE);
        due("no CHILDREN, RANK 1: audit(1, 1)", y.audit(1, 1), 0);
        y.take(2);
        due("the only one: audit(0, 0)", y.audit(0, 0), NONE);
        due("the only one, no CHILDREN, RANK 1", y.audit(0, 1), 0);
        due("the only one, RANK -1", y.audit(0, -1), 0);
    }

    private static void auditRefusals(RankIndex x) {
        for (int n : new int[] {-1, 8, LOW, HIGH}) {
            due("audit(" + n + ", 0)", x.audit(n, 0), UNKNOWN);
            due("UNKNOWN comes first: audit(" + n + ", 31)", x.audit(n, 31), UNKNOWN);
        }
        for (int r : new int[] {-2, 31, LOW, HIGH}) {
            due("audit(0, " + r + ")", x.audit(0, r), OUTSIDE);
        }
        due("empty: audit(0, 0)", new RankIndex().audit(0, 0), UNKNOWN);
    }

    private static void promise20Seed() {
        RankIndex x = eight();
        due("seed(5)", x.seed(5), 0);
        due("seed(HIGH)", x.seed(HIGH), 5);
        due("seed(-1)", x.seed(-1), OUTSIDE);
        due("seed(LOW)", x.seed(LOW), OUTSIDE);
        due("seed(0)", x.seed(0), HIGH);
        due("it is no deed", x.told(16), 8);
        x.drift(1);
        // 12345 / 65536 is 0: a KEY comes; then 1406932606 and 654583775
        due("after three DRAWS", x.seed(0), 654583775);
    }

    private static void promise21Keep() {
        RankIndex x = eight();
        for (int i : new int[] {-1, 2, LOW, HIGH}) {
            due("keep(" + i + ")", x.keep(i), UNKNOWN);
        }
        String tree = Look.tree(x);
        due("keep(0)", x.keep(0), 1);
        due("nothing can be undone", x.told(16), 0);
        due("undo(1)", x.undo(1), NOT);
        DUE.due("nothing else changes", Look.tree(x), tree);
        x.put(1, 1);
        due("one since then", x.told(16), 1);
        due("keep(1)", x.keep(1), 1);
        due("nothing can be undone", x.told(16), 0);
        x.take(50);
        x.goBack(1);
        due("IMAGE 1", x.told(0), 9);
        x.goBack(0);
        DUE.due("IMAGE 0", Look.tree(x), tree);
        x.cut(100000);
        due("kept anew", x.keep(0), 1);
        x.goBack(1);
        x.goBack(0);
        due("IMAGE 0 is another", x.told(0), 0);
    }

    private static void promise22GoBack() {
        RankIndex x = eight();
        for (int i : new int[] {-1, 2, LOW, HIGH}) {
            due("goBack(" + i + ")", x.goBack(i), UNKNOWN);
        }
        due("goBack(0)", x.goBack(0), NOT);
        due("goBack(1)", x.goBack(1), NOT);
        x.seed(31);
        x.take(10);
        x.take(30);
        String kept = Look.tree(x);
        x.keep(1);
        due("another was not kept", x.goBack(0), NOT);
        x.drift(12);
        x.rebuild();
        x.worth(x.at(0), 4321);
        String onwards = Look.now(x);
        due("goBack(1)", x.goBack(1), 1);
        DUE.due("the tree, the counts", Look.tree(x), kept);
        due("THE SEED", Look.seed(x), 31);
        due("nothing can be undone", x.told(16), 0);
        due("undo(1)", x.undo(1), NOT);
        x.drift(12);
        x.rebuild();
        x.worth(x.at(0), 4321);
        DUE.due("it goes on as it did", Look.now(x), onwards);
        due("goBack(1) again", x.goBack(1), 1);
        DUE.due("the IMAGE stays", Look.tree(x), kept);
    }
}
