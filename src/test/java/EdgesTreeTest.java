import java.io.IOException;
import java.util.function.Supplier;

/** Boundary cases of promises 1 to 5: a new object, and what is told of the tree. */
public final class EdgesTreeTest {
    private static final int NONE = Edges.NONE, UNKNOWN = Edges.UNKNOWN, OUTSIDE = Edges.OUTSIDE, NOT = Edges.NOT;
    private static final int LOW = Edges.LOW, HIGH = Edges.HIGH;
    /** The least numbers of keys with which TALL is 1, 2, 3 and so on. */
    private static final int[] TALL_FROM = {1, 2, 4, 7, 11, 17, 25, 37, 53, 77};

    private final Edges edges;

    private EdgesTreeTest() throws IOException {
        edges = new Edges("EdgesTreeTest");
    }

    public static void main(String[] args) throws IOException {
        EdgesTreeTest test = new EdgesTreeTest();
        test.newObject();
        test.lastCall();
        test.constants();
        test.toldWhat();
        test.toldTop();
        test.toldSums();
        test.toldRanks();
        test.toldLatest();
        test.toldLongSteps();
        test.toldCostly();
        test.toldNoDepths();
        test.toldFlat();
        test.toldTall();
        test.toldUndoable();
        test.nodeNumbers();
        test.nodeWhat();
        test.nodeChildren();
        test.nodeStep();
        test.nodeHowMany();
        test.keyThatIsNot();
        test.keyWhat();
        test.keyLess();
        test.atEnds();
        test.askedOfTree();
        test.edges.end();
    }

    private void newObject() {
        edges.sentence(1, "No KEYS.");
        int[] told = {0, NONE, NONE, 0, 0, 0, 0, 0, 0, 0, 0, 0, 0, NONE, 0, 0, 0};
        for (int what = 0; what < told.length; what++) {
            edges.due("told(" + what + ")", new RankIndex().told(what), told[what]);
        }
        RankIndex x = new RankIndex();
        edges.due("node(0, 0)", x.node(0, 0), UNKNOWN);
        edges.due("key(0, 0)", x.key(0, 0), UNKNOWN);
        edges.due("at(0)", x.at(0), NONE);
        edges.due("take(0)", x.take(0), NOT);
        edges.due("worth(0, 0)", x.worth(0, 0), UNKNOWN);
        edges.due("join(0)", x.join(0), NOT);
        edges.due("undo(1)", x.undo(1), NOT);
        edges.due("less(HIGH)", x.less(HIGH), 0);
        edges.due("beside(HIGH, 0)", x.beside(HIGH, 0), NONE);
        edges.due("beside(LOW, 1)", x.beside(LOW, 1), NONE);
        edges.due("between(LOW, HIGH, 0)", x.between(LOW, HIGH, 0), 0);
        edges.due("between(LOW, HIGH, 1)", x.between(LOW, HIGH, 1), 0);
        edges.due("between(LOW, HIGH, 2)", x.between(LOW, HIGH, 2), NONE);
        edges.due("way(0, 0)", x.way(0, 0), UNKNOWN);
        edges.due("audit(0, 0)", x.audit(0, 0), UNKNOWN);
        edges.due("goBack(0)", x.goBack(0), NOT);
        edges.due("goBack(1)", x.goBack(1), NOT);
        edges.due("seed(0)", x.seed(0), 0);
        edges.due("cut(100000)", new RankIndex().cut(100000), 0);
        edges.due("rebuild()", new RankIndex().rebuild(), 0);
        RankIndex other = Starts.rich();
        edges.due("beside another object", Look.now(new RankIndex()), Look.now(x));
        edges.due("the other object", other.told(0), 9);
    }

    private void lastCall() {
        edges.sentence(1, "An object is used for at most 512 calls after it has been made");
        RankIndex x = new RankIndex();
        for (int call = 1; call <= 510; call++) {
            edges.due("call " + call, call % 2 == 1 ? x.put(call, 7) : x.take(call - 1), call % 2 == 1 ? 0 : 7);
        }
        edges.due("call 511", x.put(99999, 9999), 0);
        edges.due("call 512", x.told(4), 9999);
    }

    private void constants() {
        edges.sentence(1, "They are far below all that is counted: -1000000001 and on.");
        edges.due("UNKNOWN", RankIndex.UNKNOWN, -1000000001);
        edges.due("OUTSIDE", RankIndex.OUTSIDE, -1000000002);
        edges.due("NOT", RankIndex.NOT, -1000000003);
        edges.due("FULL", RankIndex.FULL, -1000000004);
        edges.sentence(1, "NONE is -1.");
        edges.due("NONE", RankIndex.NONE, -1);
    }

    private void toldWhat() {
        edges.sentence(2, "16 how many can be undone. OUTSIDE.");
        edges.due("told(0)", Starts.rich().told(0), 9);
        edges.due("told(16)", Starts.rich().told(16), 4);
        for (int what : new int[] {-1, 17, 18, LOW, HIGH}) {
            edges.refused("told(" + what + ")", Starts::rich, x -> x.told(what), OUTSIDE);
            edges.due("empty: told(" + what + ")", Starts.empty().told(what), OUTSIDE);
            edges.due("full: told(" + what + ")", Starts.full().told(what), OUTSIDE);
        }
    }

    private void toldTop() {
        edges.sentence(2, "1 the top's KEY, 2 its RANK (1, 2: NONE)");
        RankIndex x = new RankIndex();
        edges.due("empty: told(1)", x.told(1), NONE);
        edges.due("empty: told(2)", x.told(2), NONE);
        x.put(0, 0);
        edges.due("KEY 0 alone: told(1)", x.told(1), 0);
        edges.due("KEY 0 alone: told(2)", x.told(2), 0);
        x.take(0);
        edges.due("empty again: told(1)", x.told(1), NONE);
        edges.due("empty again: told(2)", x.told(2), NONE);
    }

    private void toldSums() {
        edges.sentence(2, "3 DEPTH, 4 WORTH of all");
        edges.due("empty: DEPTH", Starts.empty().told(3), 0);
        edges.due("one: DEPTH", Starts.one().told(3), 1);
        edges.due("two: DEPTH", Starts.of(5, 9).told(3), 2);
        edges.due("empty: WORTH", Starts.empty().told(4), 0);
        RankIndex x = new RankIndex();
        for (int key = 0; key < 60; key++) {
            x.put(99999 - key, 9999);
        }
        edges.due("60 of the most WORTH", x.told(4), 60 * 9999);
        edges.due("none with KEYS above 99999", x.between(0, 99999, 0), 60);
        x.worth(99999, 0);
        edges.due("one of them 0", x.told(4), 59 * 9999);
        RankIndex y = new RankIndex();
        y.put(0, 3);
        edges.due("KEY 0 alone: WORTH", y.told(4), 3);
        y.put(99999, 40);
        edges.due("the least and the greatest KEY: WORTH", y.told(4), 43);
    }

    private void toldRanks() {
        edges.sentence(2, "11 RANKS of all together");
        edges.due("empty", Starts.empty().told(11), 0);
        edges.due("one", Starts.one().told(11), 0);
        edges.due("5:1(-,9:0)", Starts.of(5, 9).told(11), 1);
        edges.due("50:3(20:1(10:0,30:0),70:2(60:0,80:1(-,90:0)))", Starts.eight().told(11), 7);
        RankIndex x = Starts.full();
        int together = 0;
        for (int n = 0; n < 60; n++) {
            together += x.node(n, 1);
        }
        edges.due("full", x.told(11), together);
        x.cut(100000);
        edges.due("empty again", x.told(11), 0);
    }

    private void toldLatest() {
        edges.sentence(2, "of all since the start, and of the latest PUT or TAKEN alone");
        RankIndex x = Starts.of(30, 20, 10);
        edges.due("a TURN", Look.counts(x), "2 0 1 / 1 0 1");
        x.worth(20, 5);
        x.cut(10);
        x.batch(2, 20, 10);
        x.join(0);
        x.take(11);
        x.put(10, 1);
        x.put(-1, 1);
        x.told(13);
        edges.due("no PUT or TAKEN since", Look.counts(x), "2 0 1 / 1 0 1");
        x.take(10);
        edges.due("a TAKEN without any", Look.counts(x), "2 0 1 / 0 0 0");
        x.take(30);
        edges.due("one DEMOTED", Look.counts(x), "2 1 1 / 0 1 0");
        x.rebuild();
        edges.due("one PUT into an empty one", Look.counts(x), "2 1 1 / 0 0 0");
        x.cut(100000);
        x.rebuild();
        edges.due("none left, none PUT", Look.counts(x), "2 1 1 / 0 0 0");
    }

    private void toldLongSteps() {
        edges.sentence(2, "12 how many STEPS are 2 (of CHILDREN that there are)");
        edges.due("one that there is not has STEP 2", Starts.of(2, 1).told(12), 0);
        edges.due("one", Starts.one().told(12), 0);
        RankIndex x = Starts.of(2, 1, 3, 4);
        edges.due("one STEP of 2: 2:2(1:0,3:1(-,4:0))", x.told(12), 1);
        x.take(4);
        edges.due("both: 2:2(1:0,3:0)", x.told(12), 2);
        edges.due("of the KEY that came first", Starts.of(1, 2, 3, 4).told(12), 1);
    }

    private void toldCostly() {
        edges.sentence(2, "by which there would be most PROMOTED, DEMOTED and TURNS together; of like ones the least; NONE.");
        edges.due("empty", Starts.empty().told(13), NONE);
        edges.due("one, which costs nothing", Starts.one().told(13), 7);
        edges.due("three, which cost nothing", Starts.of(5, 0, 9).told(13), 0);
        // 4:2(2:1(1:0,-),6:1(-,7:0)): 1 gone, 2 is DEMOTED; 7 gone, 6 is
        edges.due("two like ones", Starts.of(4, 2, 6, 1, 7).told(13), 1);
        edges.due("the greater costs most: 1:1(-,2:0)", Starts.of(1, 2).told(13), 2);
        RankIndex x = Starts.of(4);
        x.take(4);
        edges.due("empty again", x.told(13), NONE);
        edges.due("the latest PUT cost more than any would", Starts.of(30, 20, 10).told(13), 10);
        edges.due("full", Starts.full().told(13), costliestByTaking(Starts::full));
        edges.due("full, the greatest by trying", costliestByTaking(EdgesTreeTest::lastIsCostly), 116);
        edges.due("full, the greatest", lastIsCostly().told(13), 116);
    }

    private static RankIndex lastIsCostly() {
        RankIndex x = new RankIndex();
        x.batch(30, 0, 4);
        x.batch(30, 37, 2);
        return x;
    }

    /** Each of sixty keys taken, from an object of its own. */
    private static int costliestByTaking(Supplier<RankIndex> start) {
        int costliest = NONE;
        int most = -1;
        for (int k = 0; k < 60; k++) {
            RankIndex x = start.get();
            int key = x.at(k);
            x.take(key);
            int cost = x.told(8) + x.told(9) + x.told(10);
            if (cost > most) {
                most = cost;
                costliest = key;
            }
        }
        return costliest;
    }

    private void toldNoDepths() {
        edges.sentence(2, "(both 0 without KEYS)");
        RankIndex x = new RankIndex();
        edges.due("empty: FLAT", x.told(14), 0);
        edges.due("empty: TALL", x.told(15), 0);
        x.put(3, 3);
        edges.due("one: FLAT", x.told(14), 1);
        edges.due("one: TALL", x.told(15), 1);
        x.cut(4);
        edges.due("empty again: FLAT", x.told(14), 0);
        edges.due("empty again: TALL", x.told(15), 0);
    }

    private void toldFlat() {
        edges.sentence(2, "FLAT: the least DEPTH (NODES on the longest way down) that so many KEYS can have");
        RankIndex x = new RankIndex();
        int flat = 0;
        for (int keys = 1; keys <= 60; keys++) {
            x.put(keys, 0);
            flat = Integer.bitCount(keys) == 1 ? flat + 1 : flat;
            edges.due(keys + " KEYS", x.told(14), flat);
        }
    }

    private void toldTall() {
        edges.sentence(2, "TALL: the greatest DEPTH that a tree with RIGHT STEPS can have with so many or fewer");
        RankIndex x = new RankIndex();
        int tall = 0;
        for (int keys = 1; keys <= 60; keys++) {
            x.put(keys, 0);
            tall = keys == TALL_FROM[tall] ? tall + 1 : tall;
            edges.due(keys + " KEYS", x.told(15), tall);
        }
    }

    private void toldUndoable() {
        edges.sentence(2, "16 how many can be undone");
        RankIndex x = new RankIndex();
        edges.due("of none", x.told(16), 0);
        for (int deeds = 1; deeds <= 30; deeds++) {
            x.put(deeds, 0);
            edges.due("of " + deeds, x.told(16), Math.min(deeds, 12));
        }
        x.undo(12);
        edges.due("after undo(12)", x.told(16), 0);
    }

    private void nodeNumbers() {
        edges.sentence(3, "What has a number has it from 0 on.");
        edges.due("node(0, 0)", Starts.eight().node(0, 0), 50);
        edges.due("node(7, 0)", Starts.eight().node(7, 0), 90);
        edges.due("one: node(0, 0)", Starts.one().node(0, 0), 7);
        edges.due("full: node(59, 0)", Starts.full().node(59, 0), 118);
        edges.sentence(3, "UNKNOWN (a KEY, NODE, IMAGE that there is not)");
        for (int n : new int[] {-1, 9, 10, 59, 60, LOW, HIGH}) {
            edges.refused("nine: node(" + n + ", 0)", Starts::rich, x -> x.node(n, 0), UNKNOWN);
        }
        edges.due("empty: node(0, 0)", Starts.empty().node(0, 0), UNKNOWN);
        edges.due("one: node(1, 0)", Starts.one().node(1, 0), UNKNOWN);
        edges.due("full: node(60, 0)", Starts.full().node(60, 0), UNKNOWN);
        RankIndex x = Starts.eight();
        x.take(90);
        edges.due("one gone: node(7, 0)", x.node(7, 0), UNKNOWN);
    }

    private void nodeWhat() {
        edges.sentence(3, "6 STEP (NONE of the top). UNKNOWN, OUTSIDE.");
        edges.due("node(1, 0)", Starts.eight().node(1, 0), 20);
        edges.due("node(1, 6)", Starts.eight().node(1, 6), 2);
        for (int what : new int[] {-1, 7, 8, LOW, HIGH}) {
            edges.refused("node(0, " + what + ")", Starts::rich, x -> x.node(0, what), OUTSIDE);
            edges.due("the last: node(8, " + what + ")", Starts.rich().node(8, what), OUTSIDE);
            edges.refused("UNKNOWN first: node(-1, " + what + ")", Starts::rich, x -> x.node(-1, what), UNKNOWN);
            edges.due("UNKNOWN first: node(9, " + what + ")", Starts.rich().node(9, what), UNKNOWN);
            edges.due("UNKNOWN first, empty: node(0, " + what + ")", Starts.empty().node(0, what), UNKNOWN);
        }
    }

    private void nodeChildren() {
        edges.sentence(3, "3, 4 the NODE LEFT, RIGHT (NONE)");
        edges.due("one: LEFT", Starts.one().node(0, 3), NONE);
        edges.due("one: RIGHT", Starts.one().node(0, 4), NONE);
        edges.due("5:1(1:0,-): LEFT", Starts.of(5, 1).node(0, 3), 1);
        edges.due("5:1(1:0,-): RIGHT", Starts.of(5, 1).node(0, 4), NONE);
        edges.due("5:1(-,9:0): LEFT", Starts.of(5, 9).node(0, 3), NONE);
        edges.due("5:1(-,9:0): RIGHT, numbered next", Starts.of(5, 9).node(0, 4), 1);
        edges.due("5:1(1:0,9:0): RIGHT, numbered behind", Starts.of(5, 1, 9).node(0, 4), 2);
        edges.due("the last: LEFT", Starts.full().node(59, 3), NONE);
        edges.due("the last: RIGHT", Starts.full().node(59, 4), NONE);
    }

    private void nodeStep() {
        edges.sentence(3, "6 STEP (NONE of the top)");
        edges.due("the only one", Starts.one().node(0, 6), NONE);
        edges.due("full: the top", Starts.full().node(0, 6), NONE);
        edges.due("STEP 1", Starts.of(2, 1, 3, 4).node(2, 6), 1);
        edges.due("STEP 2", Starts.of(2, 1, 3, 4).node(1, 6), 2);
        edges.sentence(3, "2 how many are above it");
        edges.due("the top", Starts.full().node(0, 2), 0);
        edges.due("the lowest", Starts.eight().node(7, 2), 3);
    }

    private void nodeHowMany() {
        edges.sentence(3, "5 how many KEYS below it and its own");
        edges.due("the only one", Starts.one().node(0, 5), 1);
        edges.due("one without CHILDREN", Starts.eight().node(7, 5), 1);
        edges.due("one with one CHILD", Starts.eight().node(6, 5), 2);
        edges.due("the top of 60", Starts.full().node(0, 5), 60);
        edges.due("the last of 60", Starts.full().node(59, 5), 1);
    }

    private void keyThatIsNot() {
        edges.sentence(4, "UNKNOWN (a KEY, NODE, IMAGE that there is not)");
        for (int key : new int[] {-1, 0, 19, 21, 91, 99999, 100000, LOW, HIGH}) {
            edges.refused("key(" + key + ", 0)", Starts::rich, x -> x.key(key, 0), UNKNOWN);
            edges.due("empty: key(" + key + ", 0)", Starts.empty().key(key, 0), UNKNOWN);
        }
        edges.refused("one that was TAKEN: key(10, 0)", Starts::rich, x -> x.key(10, 0), UNKNOWN);
        edges.due("full: key(1, 0)", Starts.full().key(1, 0), UNKNOWN);
        edges.due("full: key(120, 0)", Starts.full().key(120, 0), UNKNOWN);
        RankIndex x = new RankIndex();
        x.put(0, 0);
        x.put(99999, 9999);
        edges.due("key(0, 0)", x.key(0, 0), 0);
        edges.due("key(99999, 0)", x.key(99999, 0), 9999);
    }

    private void keyWhat() {
        edges.sentence(4, "2 how many KEYS are less. UNKNOWN, OUTSIDE.");
        edges.due("key(20, 0)", Starts.eight().key(20, 0), 2);
        edges.due("key(20, 2)", Starts.eight().key(20, 2), 1);
        for (int what : new int[] {-1, 3, 4, LOW, HIGH}) {
            edges.refused("key(20, " + what + ")", Starts::rich, x -> x.key(20, what), OUTSIDE);
            edges.refused("UNKNOWN first: key(10, " + what + ")", Starts::rich, x -> x.key(10, what), UNKNOWN);
            edges.due("UNKNOWN first: key(-1, " + what + ")", Starts.rich().key(-1, what), UNKNOWN);
            edges.due("UNKNOWN first: key(100000, " + what + ")", Starts.rich().key(100000, what), UNKNOWN);
        }
    }

    private void keyLess() {
        edges.sentence(4, "1 its NODE, 2 how many KEYS are less");
        RankIndex x = Starts.full();
        edges.due("the least: how many are less", x.key(0, 2), 0);
        edges.due("the greatest: how many are less", x.key(118, 2), 59);
        edges.due("the greatest is the last NODE", x.key(118, 1), 59);
        edges.due("the top is NODE 0", x.key(x.told(1), 1), 0);
        edges.due("one: its NODE", Starts.one().key(7, 1), 0);
        edges.due("one: how many are less", Starts.one().key(7, 2), 0);
    }

    private void atEnds() {
        edges.sentence(5, "The k-th KEY; NONE.");
        edges.due("at(0)", Starts.eight().at(0), 10);
        edges.due("at(7)", Starts.eight().at(7), 90);
        for (int k : new int[] {-1, -2, 9, 10, 60, LOW, HIGH}) {
            edges.refused("nine: at(" + k + ")", Starts::rich, x -> x.at(k), NONE);
        }
        edges.due("empty: at(0)", Starts.empty().at(0), NONE);
        edges.due("one: at(0)", Starts.one().at(0), 7);
        edges.due("one: at(1)", Starts.one().at(1), NONE);
        edges.due("full: at(0)", Starts.full().at(0), 0);
        edges.due("full: at(59)", Starts.full().at(59), 118);
        edges.due("full: at(60)", Starts.full().at(60), NONE);
    }

    /** What is told is asked too, COSTLY above all, which has to try what it tells. */
    private void askedOfTree() {
        edges.sentence(2, "ASKED, nothing changes by it.");
        for (int what = 0; what <= 16; what++) {
            int asked = what;
            edges.changesNothing("told(" + what + ")", Starts::rich, x -> x.told(asked));
        }
        edges.changesNothing("full: told(13)", Starts::full, x -> x.told(13));
        edges.sentence(3, "ASKED, nothing changes by it.");
        for (int what = 0; what <= 6; what++) {
            int asked = what;
            edges.changesNothing("node(3, " + what + ")", Starts::rich, x -> x.node(3, asked));
        }
        edges.sentence(4, "ASKED, nothing changes by it.");
        for (int what = 0; what <= 2; what++) {
            int asked = what;
            edges.changesNothing("key(30, " + what + ")", Starts::rich, x -> x.key(30, asked));
        }
        edges.sentence(5, "ASKED, nothing changes by it.");
        edges.changesNothing("at(3)", Starts::rich, x -> x.at(3));
    }
}
