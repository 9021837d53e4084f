import java.io.IOException;

/** Boundary cases of promises 9 to 12: many keys at once come, go, or come anew. */
public final class EdgesManyTest {
    private static final int UNKNOWN = Edges.UNKNOWN, OUTSIDE = Edges.OUTSIDE, NOT = Edges.NOT;
    private static final int LOW = Edges.LOW, HIGH = Edges.HIGH;

    private final Edges edges;

    private EdgesManyTest() throws IOException {
        edges = new Edges("EdgesManyTest");
    }

    public static void main(String[] args) throws IOException {
        EdgesManyTest test = new EdgesManyTest();
        test.cutBounds();
        test.cutAtAKey();
        test.cutOneByOne();
        test.cutOfNone();
        test.batchHowMany();
        test.batchFrom();
        test.batchApart();
        test.batchLeftOut();
        test.batchRoom();
        test.batchIsOneDeed();
        test.rebuildEnds();
        test.rebuildRising();
        test.joinImages();
        test.joinNotKept();
        test.joinGreater();
        test.joinEmpty();
        test.joinRoom();
        test.joinLeavesImage();
        test.edges.end();
    }

    private void cutBounds() {
        edges.sentence(9, "CUT at a KEY (0 .. 100000): how many were TAKEN. OUTSIDE.");
        RankIndex x = new RankIndex();
        x.put(0, 1);
        x.put(99999, 2);
        edges.due("cut(0)", x.cut(0), 0);
        edges.due("cut(1)", x.cut(1), 1);
        edges.due("cut(99999)", x.cut(99999), 0);
        edges.due("cut(100000)", x.cut(100000), 1);
        edges.due("KEYS", x.told(0), 0);
        for (int key : new int[] {-1, 100001, -2, 100002, LOW, HIGH}) {
            edges.refused("cut(" + key + ")", Starts::rich, y -> y.cut(key), OUTSIDE);
            edges.refused("empty: cut(" + key + ")", Starts::empty, y -> y.cut(key), OUTSIDE);
            edges.refused("full: cut(" + key + ")", Starts::full, y -> y.cut(key), OUTSIDE);
        }
    }

    private void cutAtAKey() {
        edges.sentence(9, "all KEYS less than it are TAKEN");
        int[][] rows = {{10, 0, 10}, {11, 1, 20}, {20, 1, 20}, {21, 2, 30}, {50, 3, 50}, {89, 7, 90}, {90, 7, 90}};
        for (int[] row : rows) {
            RankIndex x = Starts.eight();
            edges.due("cut(" + row[0] + ")", x.cut(row[0]), row[1]);
            edges.due("cut(" + row[0] + "): KEYS", x.told(0), 8 - row[1]);
            edges.due("cut(" + row[0] + "): the least then", x.at(0), row[2]);
        }
        edges.due("all", Starts.eight().cut(91), 8);
        edges.due("full, all but one", Starts.full().cut(118), 59);
        edges.due("full, all", Starts.full().cut(119), 60);
    }

    private void cutOneByOne() {
        edges.sentence(9, "are TAKEN, rising, one by one");
        for (int keys = 1; keys <= 60; keys++) {
            RankIndex x = Starts.full();
            x.cut(2 * keys);
            RankIndex y = Starts.full();
            for (int k = 0; k < keys; k++) {
                y.take(2 * k);
            }
            edges.due("cut(" + 2 * keys + ")", Look.tree(x), Look.tree(y));
        }
        RankIndex z = Starts.eight();
        z.cut(31);
        // 10 gone, nothing; 20 gone, 70 TURNS over 50; 30 gone, 50 is DEMOTED
        edges.due("the latest is the last one TAKEN", Look.counts(z), "7 1 1 / 0 1 0");
        edges.due("all together are one deed", z.told(16), 9);
        edges.due("undone together", z.undo(1), 8);
    }

    private void cutOfNone() {
        edges.sentence(9, "how many were TAKEN");
        RankIndex x = Starts.eight();
        String before = Look.tree(x);
        edges.due("none is less", x.cut(10), 0);
        edges.due("the tree, the counts stay", Look.tree(x), before);
        edges.due("it can be undone", x.told(16), 9);
        RankIndex y = new RankIndex();
        edges.due("empty: cut(0)", y.cut(0), 0);
        edges.due("empty: cut(100000)", y.cut(100000), 0);
        edges.due("both can be undone", y.told(16), 2);
    }

    private void batchHowMany() {
        edges.sentence(10, "BATCH (n 1 .. 30;");
        edges.due("batch(1, 7, 5)", Starts.empty().batch(1, 7, 5), 1);
        edges.due("batch(30, 7, 5)", Starts.empty().batch(30, 7, 5), 30);
        RankIndex x = new RankIndex();
        x.batch(30, 7, 5);
        edges.due("the first", x.at(0), 7);
        edges.due("the last", x.at(29), 7 + 29 * 5);
        for (int n : new int[] {0, 31, -1, 32, LOW, HIGH}) {
            edges.refused("batch(" + n + ", 7, 5)", Starts::rich, y -> y.batch(n, 7, 5), OUTSIDE);
            edges.refused("empty: batch(" + n + ", 7, 5)", Starts::empty, y -> y.batch(n, 7, 5), OUTSIDE);
            edges.refused("full: batch(" + n + ", 7, 5)", Starts::full, y -> y.batch(n, 7, 5), OUTSIDE);
        }
    }

    private void batchFrom() {
        edges.sentence(10, "a 0 .. 99999;");
        RankIndex x = new RankIndex();
        edges.due("batch(1, 0, 1)", x.batch(1, 0, 1), 1);
        edges.due("batch(1, 99999, 1)", x.batch(1, 99999, 1), 1);
        edges.due("both came", Look.keys(x), "0=1 99999=1");
        for (int a : new int[] {-1, 100000, -2, 100001, LOW, HIGH}) {
            edges.refused("batch(2, " + a + ", 5)", Starts::rich, y -> y.batch(2, a, 5), OUTSIDE);
            edges.refused("full: batch(2, " + a + ", 5)", Starts::full, y -> y.batch(2, a, 5), OUTSIDE);
        }
    }

    private void batchApart() {
        edges.sentence(10, "d 1 .. 9999)");
        RankIndex x = new RankIndex();
        edges.due("batch(3, 5, 1)", x.batch(3, 5, 1), 3);
        edges.due("1 apart", Look.keys(x), "5=1 6=1 7=1");
        RankIndex y = new RankIndex();
        edges.due("batch(3, 5, 9999)", y.batch(3, 5, 9999), 3);
        edges.due("9999 apart", Look.keys(y), "5=1 10004=1 20003=1");
        for (int d : new int[] {0, 10000, -1, 10001, LOW, HIGH}) {
            edges.refused("batch(2, 5, " + d + ")", Starts::rich, z -> z.batch(2, 5, d), OUTSIDE);
            edges.refused("one KEY: batch(1, 5, " + d + ")", Starts::rich, z -> z.batch(1, 5, d), OUTSIDE);
        }
        edges.refused("all three outside", Starts::rich, z -> z.batch(0, -1, 0), OUTSIDE);
    }

    private void batchLeftOut() {
        edges.sentence(10, "(those that are there, or above 99999, are left out), WORTH 1");
        RankIndex x = new RankIndex();
        edges.due("the last just below: batch(3, 90000, 9999)", x.batch(3, 90000, 9999), 2);
        edges.due("up to 99999", Look.keys(x), "90000=1 99999=1");
        RankIndex y = new RankIndex();
        edges.due("the last just above: batch(3, 90001, 9999)", y.batch(3, 90001, 9999), 1);
        edges.due("100000 is left out", Look.keys(y), "90001=1");
        edges.due("far above: batch(30, 99999, 9999)", Starts.empty().batch(30, 99999, 9999), 1);
        RankIndex z = Starts.of(20, 40);
        edges.due("two are there: batch(4, 10, 10)", z.batch(4, 10, 10), 2);
        edges.due("they count among the n, and keep their WORTH", Look.keys(z), "10=1 20=2 30=1 40=4");
        edges.due("all are there", z.batch(4, 10, 10), 0);
    }

    private void batchRoom() {
        edges.sentence(10, "how many came (as there is room, up to 60)");
        RankIndex x = new RankIndex();
        x.batch(30, 0, 2);
        x.batch(28, 60, 2);
        edges.due("room for two of 30", x.batch(30, 1, 2), 2);
        edges.due("the first two", x.at(1) + " " + x.at(3) + " " + x.at(5), "1 3 6");
        edges.due("KEYS", x.told(0), 60);
        RankIndex y = new RankIndex();
        y.batch(30, 0, 2);
        y.batch(29, 60, 2);
        edges.due("those that are there take no room", y.batch(3, 0, 1), 1);
        edges.due("KEYS", y.told(0), 60);
        edges.due("full: none", Starts.full().batch(30, 1, 2), 0);
        RankIndex z = new RankIndex();
        edges.due("exactly 60", z.batch(30, 0, 1) + z.batch(30, 30, 1), 60);
    }

    private void batchIsOneDeed() {
        edges.sentence(10, "n KEYS from a, d apart, are PUT, one by one");
        RankIndex x = new RankIndex();
        x.batch(30, 100, 3);
        RankIndex y = new RankIndex();
        for (int i = 0; i < 30; i++) {
            y.put(100 + 3 * i, 1);
        }
        edges.due("as if PUT", Look.tree(x), Look.tree(y));
        edges.due("one deed", x.told(16), 1);
        edges.due("undone together", x.undo(1), 0);
        RankIndex z = Starts.full();
        String before = Look.counts(z);
        z.batch(30, 1, 2);
        edges.due("none came: it can be undone", z.told(16), 2);
        edges.due("none came: the counts stay", Look.counts(z), before);
    }

    private void rebuildEnds() {
        edges.sentence(11, "DOUBLED: DEPTH then.");
        edges.due("empty", Starts.empty().rebuild(), 0);
        edges.due("one", Starts.one().rebuild(), 1);
        edges.due("two", Starts.of(9, 5).rebuild(), 2);
        edges.due("full", Starts.full().rebuild(), 6);
        RankIndex x = Starts.full();
        x.rebuild();
        edges.due("all 60 are there", Look.keys(x), Look.keys(Starts.full()));
        RankIndex y = new RankIndex();
        y.rebuild();
        edges.due("empty: it can be undone", y.told(16), 1);
        edges.due("empty: no KEYS", y.told(0), 0);
        edges.due("empty: no counts", Look.counts(y), "0 0 0 / 0 0 0");
    }

    private void rebuildRising() {
        edges.sentence(11, "its KEYS, rising, are PUT into an empty one");
        RankIndex x = Starts.of(9, 5);
        x.rebuild();
        edges.due("two", Look.shape(x), "5:1(-,9:0)");
        edges.due("the counts go on", Look.counts(x), "2 0 0 / 1 0 0");
        RankIndex y = new RankIndex();
        y.put(99999, 9999);
        y.put(50, 0);
        y.put(0, 1234);
        y.rebuild();
        edges.due("with their WORTH", Look.keys(y), "0=1234 50=0 99999=9999");
        RankIndex z = Starts.one();
        z.rebuild();
        edges.due("one", Look.tree(z), Look.tree(Starts.one()));
        edges.due("one deed", z.told(16), 2);
    }

    private void joinImages() {
        edges.sentence(12, "UNKNOWN (a KEY, NODE, IMAGE that there is not)");
        for (int i : new int[] {-1, 2, 3, LOW, HIGH}) {
            edges.refused("both are kept: join(" + i + ")", Starts::rich, x -> x.join(i), UNKNOWN);
            edges.refused("UNKNOWN ahead of NOT: join(" + i + ")", Starts::eight, x -> x.join(i), UNKNOWN);
            edges.refused("full: join(" + i + ")", Starts::full, x -> x.join(i), UNKNOWN);
        }
        edges.due("join(0)", Starts.rich().join(0), 3);
        edges.due("join(1)", Starts.rich().join(1), 0);
    }

    private void joinNotKept() {
        edges.sentence(12, "UNKNOWN, NOT: it was not kept.");
        edges.refused("join(0)", Starts::eight, x -> x.join(0), NOT);
        edges.refused("join(1)", Starts::eight, x -> x.join(1), NOT);
        edges.refused("empty: join(0)", Starts::empty, x -> x.join(0), NOT);
        edges.refused("another one was: join(0)", Starts::withImage1, x -> x.join(0), NOT);
        edges.refused("full, another one was: join(1)", Starts::full, x -> x.join(1), NOT);
        edges.due("this one was: join(1)", Starts.withImage1().join(1), 0);
    }

    private void joinGreater() {
        edges.sentence(12, "all its KEYS greater than all of THE TREE are PUT, rising, with their WORTH");
        RankIndex x = Starts.eight();
        x.keep(0);
        x.take(20);
        x.take(90);
        edges.due("less ones stay away", x.join(0), 1);
        edges.due("the greatest came", Look.keys(x), "10=1 30=3 50=5 60=6 70=7 80=8 90=9");
        edges.due("like ones stay away", x.join(0), 0);
        edges.due("each can be undone", x.told(16), 4);
        RankIndex y = Starts.eight();
        y.keep(0);
        y.cut(100000);
        y.put(90, 77);
        edges.due("the greatest is like its own", y.join(0), 0);
        y.take(90);
        y.put(89, 77);
        edges.due("the greatest is 1 less", y.join(0), 1);
        edges.due("with its WORTH", Look.keys(y), "89=77 90=9");
        y.cut(100000);
        y.put(9, 77);
        edges.due("all are greater", y.join(0), 8);
        edges.due("together one deed: undone", y.undo(1), 1);
    }

    private void joinEmpty() {
        edges.sentence(12, "greater than all of THE TREE");
        RankIndex x = new RankIndex();
        x.put(0, 5);
        x.put(99999, 6);
        x.keep(1);
        x.cut(100000);
        edges.due("THE TREE is empty: all, KEY 0 too", x.join(1), 2);
        edges.due("with their WORTH", Look.keys(x), "0=5 99999=6");
        RankIndex y = new RankIndex();
        y.keep(0);
        edges.due("both are empty", y.join(0), 0);
        y.put(5, 5);
        edges.due("the IMAGE is empty", y.join(0), 0);
        edges.due("KEYS", y.told(0), 1);
        edges.due("each can be undone", y.told(16), 3);
    }

    private void joinRoom() {
        edges.sentence(12, "how many came (as there is room)");
        RankIndex x = Starts.full();
        x.keep(1);
        x.cut(100000);
        edges.due("all 60 into an empty one", x.join(1), 60);
        edges.due("rising", Look.shape(x), Look.shape(rebuilt()));
        RankIndex y = new RankIndex();
        y.batch(30, 1000, 1);
        y.keep(0);
        y.cut(100000);
        y.batch(30, 0, 1);
        y.batch(29, 30, 1);
        edges.due("room for one of 30", y.join(0), 1);
        edges.due("the least of them", y.at(59), 1000);
        edges.due("full: none", y.join(0), 0);
        edges.due("KEYS", y.told(0), 60);
        edges.due("it can be undone", y.told(16), 5);
    }

    private static RankIndex rebuilt() {
        RankIndex x = Starts.full();
        x.rebuild();
        return x;
    }

    private void joinLeavesImage() {
        edges.sentence(12, "JOINED from an IMAGE");
        RankIndex x = Starts.rich();
        x.join(0);
        edges.due("THE SEED is not the IMAGE's", Look.seed(x), 33);
        x.goBack(0);
        edges.due("the IMAGE stays", Look.keys(x), "200=1 250=1 300=1");
        RankIndex y = Starts.rich();
        String counts = Look.counts(y);
        y.join(1);
        edges.due("the counts are not the IMAGE's", Look.counts(y), counts);
    }
}
