import java.io.IOException;

/** Boundary cases of promises 6 to 8: one key comes, goes, or is worth something else. */
public final class EdgesPutTakeTest {
    private static final int UNKNOWN = Edges.UNKNOWN, OUTSIDE = Edges.OUTSIDE, NOT = Edges.NOT, FULL = Edges.FULL;
    private static final int LOW = Edges.LOW, HIGH = Edges.HIGH;

    private final Edges edges;

    private EdgesPutTakeTest() throws IOException {
        edges = new Edges("EdgesPutTakeTest");
    }

    public static void main(String[] args) throws IOException {
        EdgesPutTakeTest test = new EdgesPutTakeTest();
        test.putKeys();
        test.putWorths();
        test.putUnlike();
        test.putSixty();
        test.putOrderOfRefusals();
        test.putTurns();
        test.putWithoutParent();
        test.putMissingSibling();
        test.putMissingInner();
        test.takeKeys();
        test.takeWhatIsNot();
        test.takeExchanged();
        test.takeOneChild();
        test.takeDemotesParent();
        test.takeUpToTheTop();
        test.takeClimbs();
        test.takeTurnsTwice();
        test.takeLeavesParentAlone();
        test.takeMakesRoom();
        test.worthBounds();
        test.worthUnknown();
        test.worthOnly();
        test.edges.end();
    }

    private void putKeys() {
        edges.sentence(6, "KEYS (0 .. 99999, unlike, 60 at most)");
        RankIndex x = new RankIndex();
        edges.due("put(0, 3)", x.put(0, 3), 0);
        edges.due("put(99999, 4)", x.put(99999, 4), 0);
        edges.due("both came", Look.keys(x), "0=3 99999=4");
        for (int key : new int[] {-1, 100000, -2, 100001, LOW, HIGH}) {
            edges.refused("put(" + key + ", 3)", Starts::rich, y -> y.put(key, 3), OUTSIDE);
            edges.refused("empty: put(" + key + ", 3)", Starts::empty, y -> y.put(key, 3), OUTSIDE);
        }
    }

    private void putWorths() {
        edges.sentence(6, "each WORTH 0 .. 9999");
        RankIndex x = new RankIndex();
        edges.due("put(5, 0)", x.put(5, 0), 0);
        edges.due("put(6, 9999)", x.put(6, 9999), 0);
        edges.due("both came", Look.keys(x), "5=0 6=9999");
        for (int worth : new int[] {-1, 10000, -2, 10001, LOW, HIGH}) {
            edges.refused("put(5, " + worth + ")", Starts::rich, y -> y.put(5, worth), OUTSIDE);
            edges.refused("empty: put(5, " + worth + ")", Starts::empty, y -> y.put(5, worth), OUTSIDE);
        }
        edges.refused("both are outside", Starts::rich, y -> y.put(-1, -1), OUTSIDE);
    }

    private void putUnlike() {
        edges.sentence(6, "OUTSIDE, NOT: it is there;");
        for (int key = 20; key <= 90; key += 10) {
            int there = key;
            edges.refused("put(" + key + ", 1)", Starts::rich, x -> x.put(there, 1), NOT);
        }
        edges.refused("with the same WORTH", Starts::one, x -> x.put(7, 0), NOT);
        edges.due("beside it", Starts.one().put(6, 0), 0);
        RankIndex x = Starts.one();
        x.take(7);
        edges.due("it was there, and is not now", x.put(7, 0), 0);
    }

    private void putSixty() {
        edges.sentence(6, "FULL (60).");
        RankIndex x = Starts.rising(59);
        edges.due("the 60th", x.put(60, 0), 1);
        edges.due("KEYS", x.told(0), 60);
        edges.due("the 61st", x.put(61, 0), FULL);
        edges.due("KEYS then", x.told(0), 60);
        for (int key : new int[] {1, 119, 99999}) {
            edges.refused("full: put(" + key + ", 1)", Starts::full, y -> y.put(key, 1), FULL);
        }
        edges.refused("WORTH 0", Starts::full, y -> y.put(1, 0), FULL);
        edges.refused("the most WORTH", Starts::full, y -> y.put(1, 9999), FULL);
    }

    private void putOrderOfRefusals() {
        edges.sentence(6, "of several the first in this order: UNKNOWN (a KEY, NODE, IMAGE that there is not), OUTSIDE");
        edges.refused("OUTSIDE ahead of NOT", Starts::rich, x -> x.put(20, -1), OUTSIDE);
        edges.refused("OUTSIDE ahead of NOT", Starts::rich, x -> x.put(20, 10000), OUTSIDE);
        edges.refused("OUTSIDE ahead of FULL: a KEY", Starts::full, x -> x.put(-1, 1), OUTSIDE);
        edges.refused("OUTSIDE ahead of FULL: a KEY", Starts::full, x -> x.put(100000, 1), OUTSIDE);
        edges.refused("OUTSIDE ahead of FULL: a WORTH", Starts::full, x -> x.put(1, -1), OUTSIDE);
        edges.refused("OUTSIDE ahead of FULL: a WORTH", Starts::full, x -> x.put(1, 10000), OUTSIDE);
        edges.refused("OUTSIDE ahead of NOT and FULL", Starts::full, x -> x.put(0, 10000), OUTSIDE);
        edges.refused("NOT ahead of FULL: the least", Starts::full, x -> x.put(0, 1), NOT);
        edges.refused("NOT ahead of FULL: the greatest", Starts::full, x -> x.put(118, 1), NOT);
    }

    private void putTurns() {
        edges.sentence(6, "PUT, with a WORTH: how many TURNS by it.");
        edges.due("none", Starts.of(30, 20).put(40, 0), 0);
        edges.due("none, though PROMOTED", Starts.of(30).put(20, 0), 0);
        edges.due("one", Starts.of(30, 20).put(10, 0), 1);
        edges.due("two", Starts.of(30, 10).put(20, 0), 2);
        RankIndex x = Starts.of(30, 20, 10);
        edges.due("not those of an earlier one", x.put(40, 0), 0);
    }

    private void putWithoutParent() {
        edges.sentence(6, "a KEY that is not there comes as a NODE of RANK 0 without CHILDREN, where it belongs");
        edges.due("into an empty one", Look.shape(Starts.of(5)), "5:0");
        edges.due("without any count", Look.counts(Starts.of(5)), "0 0 0 / 0 0 0");
        edges.due("as the least", Look.shape(Starts.of(5, 9, 0)), "5:1(0:0,9:0)");
        edges.due("as the greatest", Look.shape(Starts.of(5, 0, 99999)), "5:1(0:0,99999:0)");
        RankIndex x = Starts.of(5);
        x.take(5);
        x.put(9, 0);
        edges.due("into one that is empty again", Look.shape(x), "9:0");
    }

    private void putMissingSibling() {
        edges.sentence(6, "has its sibling (perhaps one that there is not) STEP 1, the PARENT is PROMOTED");
        edges.due("a LEFT one", Look.shape(Starts.of(5, 1)), "5:1(1:0,-)");
        edges.due("a RIGHT one", Look.shape(Starts.of(5, 9)), "5:1(-,9:0)");
        edges.due("once", Look.latest(Starts.of(5, 9)), "1 0 0");
        edges.due("up to the top, where it ends", Look.latest(Starts.of(5, 1, 9, 10)), "2 0 0");
        edges.due("a STEP of 1 stays", Look.latest(Starts.of(5, 1, 9)), "0 0 0");
        RankIndex x = Starts.of(2, 1, 3, 4);
        x.take(4);
        x.put(0, 0);
        edges.due("a STEP of 2 becomes 1, and that is the end", Look.shape(x), "2:2(1:1(0:0,-),3:0)");
        edges.due("once", Look.latest(x), "1 0 0");
    }

    private void putMissingInner() {
        edges.sentence(6, "x a RIGHT CHILD: its LEFT one; perhaps one that there is not");
        edges.due("LEFT and LEFT", Look.shape(Starts.of(30, 20, 10)), "20:1(10:0,30:0)");
        edges.due("RIGHT and RIGHT", Look.shape(Starts.of(10, 20, 30)), "20:1(10:0,30:0)");
        edges.due("one TURN", Look.latest(Starts.of(10, 20, 30)), "1 0 1");
        edges.due("LEFT and RIGHT: y is there", Look.shape(Starts.of(30, 10, 20)), "20:1(10:0,30:0)");
        edges.due("RIGHT and LEFT: y is there", Look.shape(Starts.of(10, 30, 20)), "20:1(10:0,30:0)");
        edges.due("two TURNS", Look.latest(Starts.of(10, 30, 20)), "1 0 2");
    }

    private void takeKeys() {
        edges.sentence(7, "OUTSIDE, NOT: it is not there.");
        RankIndex x = new RankIndex();
        x.put(0, 0);
        x.put(99999, 9999);
        edges.due("take(0)", x.take(0), 0);
        edges.due("take(99999)", x.take(99999), 9999);
        edges.due("KEYS", x.told(0), 0);
        for (int key : new int[] {-1, 100000, -2, 100001, LOW, HIGH}) {
            edges.refused("OUTSIDE ahead of NOT: take(" + key + ")", Starts::rich, y -> y.take(key), OUTSIDE);
            edges.refused("empty: take(" + key + ")", Starts::empty, y -> y.take(key), OUTSIDE);
        }
    }

    private void takeWhatIsNot() {
        edges.sentence(7, "NOT: it is not there.");
        for (int key : new int[] {0, 10, 19, 21, 55, 91, 99999}) {
            edges.refused("take(" + key + ")", Starts::rich, y -> y.take(key), NOT);
        }
        edges.refused("empty: take(0)", Starts::empty, y -> y.take(0), NOT);
        edges.refused("empty: take(99999)", Starts::empty, y -> y.take(99999), NOT);
        edges.refused("full: take(1)", Starts::full, y -> y.take(1), NOT);
        RankIndex x = Starts.one();
        x.take(7);
        edges.due("a second time", x.take(7), NOT);
    }

    private void takeExchanged() {
        edges.sentence(7, "a NODE with two CHILDREN has its KEY and WORTH exchanged for those of the least KEY below its RIGHT CHILD");
        RankIndex x = Starts.of(20, 10, 30);
        edges.due("its WORTH, not the other's", x.take(20), 2);
        edges.due("the RIGHT CHILD itself", Look.shape(x), "30:1(10:0,-)");
        edges.due("with its WORTH", Look.keys(x), "10=1 30=3");
        RankIndex z = Starts.of(30, 20, 10);
        edges.due("take(20)", z.take(20), 2);
        edges.due("the KEY that came first", Look.keys(z), "10=1 30=3");
        RankIndex y = Starts.of(40, 20, 80, 10, 30, 60, 90, 70);
        edges.due("take(40)", y.take(40), 4);
        edges.due("one below it, whose CHILD stands in", Look.shape(y), "60:3(20:1(10:0,30:0),80:2(70:0,90:0))");
        edges.due("with its WORTH", Look.keys(y), "10=1 20=2 30=3 60=6 70=7 80=8 90=9");
    }

    private void takeOneChild() {
        edges.sentence(7, "a NODE with one CHILD at most goes, its CHILD in its place");
        RankIndex x = Starts.of(20, 10);
        x.take(20);
        edges.due("the top, its LEFT one in its place", Look.shape(x), "10:0");
        RankIndex y = Starts.of(20, 30);
        y.take(20);
        edges.due("the top, its RIGHT one in its place", Look.shape(y), "30:0");
        edges.due("the top has no STEP", y.node(0, 6), Edges.NONE);
        edges.due("without any count", Look.latest(y), "0 0 0");
        y.take(30);
        edges.due("the only one", Look.shape(y), "-");
        edges.due("KEYS", y.told(0), 0);
    }

    private void takeDemotesParent() {
        edges.sentence(7, "if p has no CHILDREN now, and RANK 1, p is DEMOTED");
        RankIndex x = Starts.of(20, 10);
        x.take(10);
        edges.due("the top", Look.shape(x), "20:0");
        edges.due("once", Look.latest(x), "0 1 0");
        RankIndex y = Starts.of(20, 10, 30);
        y.take(10);
        edges.due("p has a CHILD", Look.shape(y), "20:1(-,30:0)");
        edges.due("none", Look.latest(y), "0 0 0");
    }

    private void takeUpToTheTop() {
        edges.sentence(7, "For as long as x (not the top) has STEP 3");
        // 20:2(10:0,30:0): 10 gone leaves STEP 3, of one that there is not
        RankIndex x = Starts.of(20, 10, 30, 40);
        x.take(40);
        x.take(10);
        edges.due("one that there is not", Look.shape(x), "20:1(-,30:0)");
        edges.due("the top is DEMOTED", Look.latest(x), "0 1 0");
        RankIndex y = Starts.of(20, 10, 30, 40);
        y.take(40);
        edges.due("STEP 2 stays", Look.shape(y), "20:2(10:0,30:0)");
        edges.due("up to the top: 3 DEMOTED", Look.latest(threeDemoted()), "0 3 0");
        edges.due("the top then", Look.shape(threeDemoted()), "4:2(2:0,6:1(5:0,7:0))");
    }

    private void takeClimbs() {
        edges.sentence(7, "Has y STEP 2: the PARENT is DEMOTED, x is the PARENT.");
        RankIndex x = Starts.rising(31);
        for (int key = 1; key <= 31; key += 2) {
            x.take(key);
        }
        for (int key : new int[] {2, 10, 18, 26, 6, 22, 14}) {
            x.take(key);
        }
        edges.due("all STEPS are 2 on the way to 4", Look.shape(x), "16:4(8:2(4:0,12:0),24:2(20:0,28:1(-,30:0)))");
        x.take(4);
        edges.due("8, then 16 above it", Look.shape(x), "16:3(8:1(-,12:0),24:2(20:0,28:1(-,30:0)))");
        edges.due("two are DEMOTED", Look.latest(x), "0 2 0");
    }

    private void takeTurnsTwice() {
        edges.sentence(7, "Has it STEP 2: the inner CHILD of y TURNS over y, then over the PARENT");
        RankIndex x = Starts.of(2, 1, 4, 3);
        x.take(1);
        edges.due("x is LEFT, and not there", Look.shape(x), "3:2(2:0,4:0)");
        edges.due("two TURNS", Look.latest(x), "0 0 2");
        RankIndex y = Starts.of(3, 4, 1, 2);
        y.take(4);
        edges.due("x is RIGHT, and not there", Look.shape(y), "2:2(1:0,3:0)");
        edges.due("two TURNS", Look.latest(y), "0 0 2");
        RankIndex z = Starts.of(10, 5, 20, 4, 15, 30, 12);
        z.take(4);
        edges.due("x is there, the inner CHILD has one", Look.shape(z), "15:3(10:1(5:0,12:0),20:1(-,30:0))");
        edges.due("one DEMOTED, two TURNS", Look.latest(z), "0 1 2");
    }

    private static RankIndex threeDemoted() {
        RankIndex x = Starts.of(4, 2, 6, 1, 3, 5, 7, 8);
        x.take(8);
        x.take(1);
        x.take(3);
        return x;
    }

    private void takeLeavesParentAlone() {
        edges.sentence(7, "the PARENT's 1 less, and, if the PARENT has no CHILDREN then, 1 less again");
        RankIndex x = Starts.of(2, 1, 4, 5);
        x.take(1);
        edges.due("no CHILDREN then", Look.shape(x), "4:2(2:0,5:0)");
        RankIndex y = Starts.of(2, 1, 4, 3, 5);
        y.take(1);
        edges.due("a CHILD then", Look.shape(y), "4:2(2:1(-,3:0),5:0)");
        RankIndex z = Starts.of(5, 6, 3, 2);
        z.take(6);
        edges.due("no CHILDREN then, on the other side", Look.shape(z), "3:2(2:0,5:0)");
        RankIndex w = Starts.of(5, 6, 3, 4, 2);
        w.take(6);
        edges.due("a CHILD then, on the other side", Look.shape(w), "3:2(2:0,5:1(4:0,-))");
    }

    private void takeMakesRoom() {
        edges.sentence(7, "TAKEN: its WORTH.");
        RankIndex x = Starts.full();
        edges.due("full: take(118)", x.take(118), 1);
        edges.due("KEYS", x.told(0), 59);
        edges.due("there is room", x.put(119, 8) >= 0 ? 1 : 0, 1);
        edges.due("for one", x.put(121, 8), FULL);
        edges.due("take(119)", x.take(119), 8);
        RankIndex y = Starts.full();
        for (int key = 0; key < 120; key += 2) {
            edges.due("take(" + key + ")", y.take(key), 1);
        }
        edges.due("none left", y.told(0), 0);
    }

    private void worthBounds() {
        edges.sentence(8, "each WORTH 0 .. 9999");
        RankIndex x = Starts.eight();
        edges.due("worth(30, 9999)", x.worth(30, 9999), 3);
        edges.due("worth(30, 0)", x.worth(30, 0), 9999);
        edges.due("it is 0", x.key(30, 0), 0);
        for (int worth : new int[] {-1, 10000, -2, 10001, LOW, HIGH}) {
            edges.refused("worth(30, " + worth + ")", Starts::rich, y -> y.worth(30, worth), OUTSIDE);
        }
    }

    private void worthUnknown() {
        edges.sentence(8, "A KEY's WORTH is another: what it was. UNKNOWN, OUTSIDE.");
        for (int key : new int[] {-1, 0, 10, 29, 31, 99999, 100000, LOW, HIGH}) {
            edges.refused("worth(" + key + ", 1)", Starts::rich, y -> y.worth(key, 1), UNKNOWN);
            edges.refused("UNKNOWN first: worth(" + key + ", -1)", Starts::rich, y -> y.worth(key, -1), UNKNOWN);
            edges.refused("UNKNOWN first: worth(" + key + ", 10000)", Starts::rich, y -> y.worth(key, 10000), UNKNOWN);
        }
        edges.refused("empty: worth(0, 0)", Starts::empty, y -> y.worth(0, 0), UNKNOWN);
        edges.refused("full: worth(1, 1)", Starts::full, y -> y.worth(1, 1), UNKNOWN);
        RankIndex x = new RankIndex();
        x.put(0, 1);
        x.put(99999, 2);
        edges.due("worth(0, 5)", x.worth(0, 5), 1);
        edges.due("worth(99999, 6)", x.worth(99999, 6), 2);
    }

    private void worthOnly() {
        edges.sentence(8, "what it was");
        RankIndex x = Starts.eight();
        String shape = Look.shape(x);
        String counts = Look.counts(x);
        edges.due("the same again", x.worth(30, 3), 3);
        edges.due("it can be undone", x.told(16), 9);
        x.worth(30, 44);
        edges.due("the tree stays", Look.shape(x), shape);
        edges.due("the counts stay", Look.counts(x), counts);
        x.undo(1);
        edges.due("undone", x.key(30, 0), 3);
        edges.due("full: worth(118, 7)", Starts.full().worth(118, 7), 1);
    }
}
