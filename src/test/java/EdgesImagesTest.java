import java.io.IOException;

/** Boundary cases of promises 20 to 22: THE SEED and the images. */
public final class EdgesImagesTest {
    private static final int UNKNOWN = Edges.UNKNOWN, OUTSIDE = Edges.OUTSIDE, NOT = Edges.NOT;
    private static final int LOW = Edges.LOW, HIGH = Edges.HIGH;

    private final Edges edges;

    private EdgesImagesTest() throws IOException {
        edges = new Edges("EdgesImagesTest");
    }

    public static void main(String[] args) throws IOException {
        EdgesImagesTest test = new EdgesImagesTest();
        test.seedBounds();
        test.seedAtFirst();
        test.seedAlone();
        test.keepWhich();
        test.keepNothingUndone();
        test.keepOver();
        test.keepEmptyAndFull();
        test.goBackWhich();
        test.goBackNotKept();
        test.goBackNothingUndone();
        test.imagesKeepAll();
        test.imagesAreApart();
        test.imagesStay();
        test.edges.end();
    }

    private void seedBounds() {
        edges.sentence(20, "THE SEED becomes v (0 .. 2147483647): what it was. OUTSIDE.");
        RankIndex x = new RankIndex();
        edges.due("seed(2147483647)", x.seed(2147483647), 0);
        edges.due("seed(2147483646)", x.seed(2147483646), 2147483647);
        edges.due("seed(0)", x.seed(0), 2147483646);
        edges.due("seed(1)", x.seed(1), 0);
        edges.due("the same again", x.seed(1), 1);
        for (int v : new int[] {-1, -2, LOW, LOW + 1}) {
            edges.refused("seed(" + v + ")", Starts::rich, y -> y.seed(v), OUTSIDE);
            edges.refused("empty: seed(" + v + ")", Starts::empty, y -> y.seed(v), OUTSIDE);
        }
    }

    private void seedAtFirst() {
        edges.sentence(20, "THE SEED (0 at first:");
        edges.due("a new object", Starts.empty().seed(7), 0);
        edges.due("no DRAW, no change", Starts.eight().seed(7), 0);
    }

    private void seedAlone() {
        edges.sentence(20, "THE SEED becomes v");
        RankIndex x = Starts.rich();
        String tree = Look.tree(x);
        x.seed(5);
        edges.due("the tree, the counts stay", Look.tree(x), tree);
        edges.due("what can be undone stays", x.told(16), 4);
        x.goBack(1);
        edges.due("the IMAGE has its own", x.seed(0), 22);
    }

    private void keepWhich() {
        edges.sentence(21, "IMAGE i becomes what is so (nothing can be undone then): 1. UNKNOWN.");
        edges.due("keep(0)", Starts.eight().keep(0), 1);
        edges.due("keep(1)", Starts.eight().keep(1), 1);
        for (int i : new int[] {-1, 2, 3, LOW, HIGH}) {
            edges.refused("keep(" + i + ")", Starts::rich, x -> x.keep(i), UNKNOWN);
            edges.refused("none kept: keep(" + i + ")", Starts::eight, x -> x.keep(i), UNKNOWN);
            edges.refused("empty: keep(" + i + ")", Starts::empty, x -> x.keep(i), UNKNOWN);
        }
    }

    private void keepNothingUndone() {
        edges.sentence(21, "(nothing can be undone then)");
        for (int i = 0; i < 2; i++) {
            RankIndex x = Starts.rising(20);
            String tree = Look.tree(x);
            x.keep(i);
            edges.due("keep(" + i + "): how many", x.told(16), 0);
            edges.due("keep(" + i + "): undo(1)", x.undo(1), NOT);
            edges.due("keep(" + i + "): nothing else changes", Look.tree(x), tree);
            x.put(50, 0);
            edges.due("keep(" + i + "): one since", x.told(16), 1);
            edges.due("keep(" + i + "): undo(1) then", x.undo(1), 20);
        }
        RankIndex y = new RankIndex();
        edges.due("none could be ahead of it", y.keep(0), 1);
        edges.due("nor can be then", y.told(16), 0);
    }

    private void keepOver() {
        edges.sentence(21, "IMAGE i becomes what is so");
        RankIndex x = Starts.eight();
        x.keep(0);
        x.cut(50);
        x.seed(8);
        edges.due("a second time", x.keep(0), 1);
        x.cut(100000);
        x.goBack(0);
        edges.due("the first has given way", Look.keys(x), "50=5 60=6 70=7 80=8 90=9");
        edges.due("with THE SEED", Look.seed(x), 8);
    }

    private void keepEmptyAndFull() {
        edges.sentence(21, "what is so");
        RankIndex x = new RankIndex();
        x.keep(1);
        x.batch(30, 0, 1);
        edges.due("an empty one: goBack(1)", x.goBack(1), 1);
        edges.due("an empty one: KEYS", x.told(0), 0);
        edges.due("an empty one: the top", x.told(1), Edges.NONE);
        edges.due("an empty one goes on", x.put(5, 5), 0);
        RankIndex y = Starts.full();
        String full = Look.tree(Starts.full());
        y.keep(1);
        y.cut(100000);
        y.goBack(1);
        edges.due("a full one", Look.tree(y), full);
        edges.due("a full one is full", y.put(1, 1), Edges.FULL);
    }

    private void goBackWhich() {
        edges.sentence(22, "UNKNOWN (a KEY, NODE, IMAGE that there is not)");
        edges.due("goBack(0)", Starts.rich().goBack(0), 1);
        edges.due("goBack(1)", Starts.rich().goBack(1), 1);
        for (int i : new int[] {-1, 2, 3, LOW, HIGH}) {
            edges.refused("goBack(" + i + ")", Starts::rich, x -> x.goBack(i), UNKNOWN);
            edges.refused("UNKNOWN ahead of NOT: goBack(" + i + ")", Starts::eight, x -> x.goBack(i), UNKNOWN);
        }
    }

    private void goBackNotKept() {
        edges.sentence(22, "UNKNOWN, NOT: it was not kept.");
        edges.refused("goBack(0)", Starts::eight, x -> x.goBack(0), NOT);
        edges.refused("goBack(1)", Starts::eight, x -> x.goBack(1), NOT);
        edges.refused("empty: goBack(0)", Starts::empty, x -> x.goBack(0), NOT);
        edges.refused("another one was: goBack(0)", Starts::withImage1, x -> x.goBack(0), NOT);
        edges.refused("another one was: goBack(1)", Starts::full, x -> x.goBack(1), NOT);
        edges.due("this one was: goBack(1)", Starts.withImage1().goBack(1), 1);
    }

    private void goBackNothingUndone() {
        edges.sentence(22, "What is so becomes IMAGE i (nothing can be undone then): 1.");
        RankIndex x = Starts.rich();
        x.goBack(0);
        edges.due("how many", x.told(16), 0);
        edges.due("undo(1)", x.undo(1), NOT);
        x.put(1, 1);
        edges.due("one since", x.told(16), 1);
        edges.due("undo(2)", x.undo(2), NOT);
        edges.due("undo(1) then", x.undo(1), 3);
    }

    private void imagesKeepAll() {
        edges.sentence(22, "IMAGES 0, 1 keep THE TREE, COUNTS, THE SEED.");
        for (int i = 0; i < 2; i++) {
            RankIndex x = Starts.rich();
            x.seed(HIGH);
            x.keep(i);
            String kept = Look.now(x);
            x.drift(12);
            x.worth(x.at(0), 4321);
            x.rebuild();
            x.cut(60);
            x.goBack(i);
            edges.due("IMAGE " + i, Look.now(x), kept);
        }
        RankIndex y = Starts.of(30, 20, 10);
        y.keep(0);
        y.take(10);
        y.goBack(0);
        edges.due("the counts of the latest too", Look.counts(y), "2 0 1 / 1 0 1");
    }

    private void imagesAreApart() {
        edges.sentence(22, "IMAGES 0, 1 keep");
        RankIndex x = Starts.rich();
        x.goBack(0);
        edges.due("IMAGE 0", Look.keys(x) + " " + Look.seed(x), "200=1 250=1 300=1 11");
        x.goBack(1);
        edges.due("IMAGE 1", Look.keys(x) + " " + Look.seed(x), "10=1 20=2 30=3 50=5 60=6 70=7 80=8 90=9 22");
        x.keep(0);
        x.cut(100000);
        x.goBack(0);
        edges.due("IMAGE 0 is as 1", x.told(0), 8);
    }

    private void imagesStay() {
        edges.sentence(22, "What is so becomes IMAGE i");
        RankIndex x = Starts.rich();
        x.goBack(1);
        String kept = Look.now(x);
        x.take(50);
        x.worth(20, 9999);
        x.put(95, 1);
        x.seed(1);
        edges.due("a second time", x.goBack(1), 1);
        edges.due("the IMAGE stays what it was", Look.now(x), kept);
        x.put(95, 1);
        x.undo(1);
        x.goBack(1);
        edges.due("a third time", Look.now(x), kept);
    }
}
