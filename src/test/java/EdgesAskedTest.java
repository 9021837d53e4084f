import java.io.IOException;

/** Boundary cases of promises 15 to 19: what is asked. */
public final class EdgesAskedTest {
    private static final int NONE = Edges.NONE, UNKNOWN = Edges.UNKNOWN, OUTSIDE = Edges.OUTSIDE;
    private static final int LOW = Edges.LOW, HIGH = Edges.HIGH;

    private final Edges edges;

    private EdgesAskedTest() throws IOException {
        edges = new Edges("EdgesAskedTest");
    }

    public static void main(String[] args) throws IOException {
        EdgesAskedTest test = new EdgesAskedTest();
        test.lessThanAKey();
        test.lessOfFew();
        test.besideAKey();
        test.besideOfFew();
        test.besideWhat();
        test.betweenEnds();
        test.betweenNone();
        test.betweenMost();
        test.betweenWhat();
        test.wayEnds();
        test.wayUnknown();
        test.auditRanks();
        test.auditNodes();
        test.auditFirst();
        test.auditWithoutChildren();
        test.auditMissingChild();
        test.auditAsItIs();
        test.askedChangesNothing();
        test.edges.end();
    }

    private void lessThanAKey() {
        edges.sentence(15, "How many KEYS are less than v.");
        int[][] rows = {{LOW, 0}, {-1, 0}, {0, 0}, {9, 0}, {10, 0}, {11, 1}, {20, 1}, {21, 2}, {89, 7}, {90, 7}, {91, 8},
            {99999, 8}, {100000, 8}, {HIGH, 8}};
        for (int[] row : rows) {
            edges.due("less(" + row[0] + ")", Starts.eight().less(row[0]), row[1]);
        }
        RankIndex x = Starts.of(0, 99999);
        edges.due("KEY 0: less(0)", x.less(0), 0);
        edges.due("KEY 0: less(1)", x.less(1), 1);
        edges.due("KEY 99999: less(99999)", x.less(99999), 1);
        edges.due("KEY 99999: less(100000)", x.less(100000), 2);
    }

    private void lessOfFew() {
        edges.sentence(15, "how many are less than v");
        edges.due("empty: less(LOW)", Starts.empty().less(LOW), 0);
        edges.due("empty: less(0)", Starts.empty().less(0), 0);
        edges.due("empty: less(HIGH)", Starts.empty().less(HIGH), 0);
        edges.due("full: less(0)", Starts.full().less(0), 0);
        edges.due("full: less(118)", Starts.full().less(118), 59);
        edges.due("full: less(119)", Starts.full().less(119), 60);
    }

    private void besideAKey() {
        edges.sentence(16, "The greatest KEY less than v (what 0), the least greater (1); NONE.");
        int[][] rows = {{LOW, NONE, 10}, {-1, NONE, 10}, {0, NONE, 10}, {9, NONE, 10}, {10, NONE, 20}, {11, 10, 20}, {49, 30, 50},
            {50, 30, 60}, {51, 50, 60}, {89, 80, 90}, {90, 80, NONE}, {91, 90, NONE}, {100000, 90, NONE}, {HIGH, 90, NONE}};
        for (int[] row : rows) {
            edges.due("beside(" + row[0] + ", 0)", Starts.eight().beside(row[0], 0), row[1]);
            edges.due("beside(" + row[0] + ", 1)", Starts.eight().beside(row[0], 1), row[2]);
        }
        RankIndex x = Starts.of(0, 99999);
        edges.due("KEY 0: beside(0, 0)", x.beside(0, 0), NONE);
        edges.due("KEY 0: beside(1, 0)", x.beside(1, 0), 0);
        edges.due("KEY 0: beside(-1, 1)", x.beside(-1, 1), 0);
        edges.due("KEY 0: beside(0, 1)", x.beside(0, 1), 99999);
        edges.due("KEY 99999: beside(99999, 1)", x.beside(99999, 1), NONE);
        edges.due("KEY 99999: beside(100000, 0)", x.beside(100000, 0), 99999);
    }

    private void besideOfFew() {
        edges.sentence(16, "the greatest less than v, the least greater");
        for (int v : new int[] {LOW, 0, HIGH}) {
            edges.due("empty: beside(" + v + ", 0)", Starts.empty().beside(v, 0), NONE);
            edges.due("empty: beside(" + v + ", 1)", Starts.empty().beside(v, 1), NONE);
        }
        for (int key = 0; key < 120; key += 2) {
            edges.due("full: beside(" + key + ", 0)", Starts.full().beside(key, 0), key == 0 ? NONE : key - 2);
            edges.due("full: beside(" + key + ", 1)", Starts.full().beside(key, 1), key == 118 ? NONE : key + 2);
        }
    }

    private void besideWhat() {
        edges.sentence(16, "NONE. OUTSIDE.");
        for (int what : new int[] {-1, 2, 3, LOW, HIGH}) {
            edges.refused("beside(50, " + what + ")", Starts::rich, x -> x.beside(50, what), OUTSIDE);
            edges.refused("not NONE: beside(LOW, " + what + ")", Starts::rich, x -> x.beside(LOW, what), OUTSIDE);
            edges.due("empty: beside(50, " + what + ")", Starts.empty().beside(50, what), OUTSIDE);
        }
    }

    /** 10=1 20=6 30=3 50=5 60=6 70=6 80=8 90=9. */
    private static RankIndex worths() {
        RankIndex x = Starts.eight();
        x.worth(20, 6);
        x.worth(70, 6);
        return x;
    }

    private void betweenRow(RankIndex x, int a, int b, int many, int together, int most) {
        edges.due("between(" + a + ", " + b + ", 0)", x.between(a, b, 0), many);
        edges.due("between(" + a + ", " + b + ", 1)", x.between(a, b, 1), together);
        edges.due("between(" + a + ", " + b + ", 2)", x.between(a, b, 2), most);
    }

    private void betweenEnds() {
        edges.sentence(17, "KEYS from a to b: what = 0 how many, 1 WORTH together");
        betweenRow(worths(), LOW, HIGH, 8, 44, 90);
        betweenRow(worths(), 10, 90, 8, 44, 90);
        betweenRow(worths(), 10, 89, 7, 35, 80);
        betweenRow(worths(), 11, 90, 7, 43, 90);
        betweenRow(worths(), 11, 89, 6, 34, 80);
        betweenRow(worths(), 30, 50, 2, 8, 50);
        betweenRow(worths(), 31, 49, 0, 0, NONE);
        betweenRow(worths(), 50, 50, 1, 5, 50);
        RankIndex x = new RankIndex();
        x.put(0, 9999);
        x.put(99999, 9998);
        betweenRow(x, 0, 0, 1, 9999, 0);
        betweenRow(x, -1, 0, 1, 9999, 0);
        betweenRow(x, 99999, 99999, 1, 9998, 99999);
        betweenRow(x, 99999, 100000, 1, 9998, 99999);
        betweenRow(x, 0, 99999, 2, 19997, 0);
        betweenRow(Starts.full(), 0, 118, 60, 60, 0);
    }

    private void betweenNone() {
        edges.sentence(17, "2 the KEY of most WORTH (NONE)");
        betweenRow(Starts.empty(), LOW, HIGH, 0, 0, NONE);
        betweenRow(worths(), 51, 59, 0, 0, NONE);
        betweenRow(worths(), 50, 49, 0, 0, NONE);
        betweenRow(worths(), 90, 10, 0, 0, NONE);
        betweenRow(worths(), HIGH, LOW, 0, 0, NONE);
        betweenRow(worths(), LOW, 9, 0, 0, NONE);
        betweenRow(worths(), 91, HIGH, 0, 0, NONE);
        betweenRow(worths(), -1, -1, 0, 0, NONE);
        betweenRow(worths(), 100000, 100000, 0, 0, NONE);
    }

    private void betweenMost() {
        edges.sentence(17, "the most WORTH (of like ones the least KEY) of KEYS from a to b");
        betweenRow(worths(), 20, 70, 5, 26, 20);
        betweenRow(worths(), 21, 70, 4, 20, 60);
        betweenRow(worths(), 61, 79, 1, 6, 70);
        RankIndex x = new RankIndex();
        x.put(4, 0);
        x.put(2, 0);
        x.put(3, 0);
        betweenRow(x, 0, 9, 3, 0, 2);
        x.put(0, 0);
        betweenRow(x, 0, 9, 4, 0, 0);
    }

    private void betweenWhat() {
        edges.sentence(17, "2 the KEY of most WORTH (NONE). OUTSIDE.");
        for (int what : new int[] {-1, 3, 4, LOW, HIGH}) {
            edges.refused("between(10, 90, " + what + ")", Starts::rich, x -> x.between(10, 90, what), OUTSIDE);
            edges.refused("none there: between(90, 10, " + what + ")", Starts::rich, x -> x.between(90, 10, what), OUTSIDE);
            edges.due("empty: between(0, 9, " + what + ")", Starts.empty().between(0, 9, what), OUTSIDE);
        }
    }

    private void wayEnds() {
        edges.sentence(18, "WAY to a KEY: the i-th; NONE: not so many.");
        edges.due("the top's way: way(50, 0)", Starts.eight().way(50, 0), 50);
        edges.due("the top's way: way(50, 1)", Starts.eight().way(50, 1), NONE);
        edges.due("the first: way(90, 0)", Starts.eight().way(90, 0), 50);
        edges.due("the last: way(90, 3)", Starts.eight().way(90, 3), 90);
        edges.due("one more: way(90, 4)", Starts.eight().way(90, 4), NONE);
        for (int i : new int[] {-1, -2, 60, LOW, HIGH}) {
            edges.refused("way(90, " + i + ")", Starts::rich, x -> x.way(90, i), NONE);
        }
        edges.due("one: way(7, 0)", Starts.one().way(7, 0), 7);
        edges.due("one: way(7, 1)", Starts.one().way(7, 1), NONE);
        RankIndex x = new RankIndex();
        x.put(0, 0);
        x.put(99999, 0);
        edges.due("way(0, 0)", x.way(0, 0), 0);
        edges.due("way(99999, 1)", x.way(99999, 1), 99999);
    }

    private void wayUnknown() {
        edges.sentence(18, "NONE: not so many. UNKNOWN.");
        for (int key : new int[] {-1, 0, 10, 19, 21, 91, 99999, 100000, LOW, HIGH}) {
            edges.refused("way(" + key + ", 0)", Starts::rich, x -> x.way(key, 0), UNKNOWN);
            edges.refused("UNKNOWN, not NONE: way(" + key + ", 60)", Starts::rich, x -> x.way(key, 60), UNKNOWN);
            edges.refused("UNKNOWN, not NONE: way(" + key + ", -1)", Starts::rich, x -> x.way(key, -1), UNKNOWN);
            edges.due("empty: way(" + key + ", 0)", Starts.empty().way(key, 0), UNKNOWN);
        }
    }

    private void auditRanks() {
        edges.sentence(19, "AUDIT with RANK r (-1 .. 30) of a NODE. UNKNOWN, OUTSIDE.");
        edges.due("audit(0, -1)", Starts.eight().audit(0, -1), 0);
        edges.due("audit(0, 30)", Starts.eight().audit(0, 30), 0);
        edges.due("one: audit(0, -1)", Starts.one().audit(0, -1), 0);
        edges.due("one: audit(0, 30)", Starts.one().audit(0, 30), 0);
        for (int r : new int[] {-2, 31, -3, 32, LOW, HIGH}) {
            edges.refused("audit(0, " + r + ")", Starts::rich, x -> x.audit(0, r), OUTSIDE);
            edges.refused("UNKNOWN first: audit(-1, " + r + ")", Starts::rich, x -> x.audit(-1, r), UNKNOWN);
            edges.refused("UNKNOWN first: audit(9, " + r + ")", Starts::rich, x -> x.audit(9, r), UNKNOWN);
            edges.due("UNKNOWN first, empty: audit(0, " + r + ")", Starts.empty().audit(0, r), UNKNOWN);
            edges.due("full: audit(59, " + r + ")", Starts.full().audit(59, r), OUTSIDE);
        }
    }

    private void auditNodes() {
        edges.sentence(19, "UNKNOWN (a KEY, NODE, IMAGE that there is not)");
        for (int n : new int[] {-1, 9, 10, 60, LOW, HIGH}) {
            edges.refused("nine: audit(" + n + ", 0)", Starts::rich, x -> x.audit(n, 0), UNKNOWN);
        }
        edges.due("empty: audit(0, 0)", Starts.empty().audit(0, 0), UNKNOWN);
        edges.due("one: audit(1, 0)", Starts.one().audit(1, 0), UNKNOWN);
        edges.due("full: audit(59, 0)", Starts.full().audit(59, 0), NONE);
        edges.due("full: audit(60, 0)", Starts.full().audit(60, 0), UNKNOWN);
    }

    private void auditFirst() {
        edges.sentence(19, "the first NODE (by number) that is not RIGHT: a STEP of one of its CHILDREN is neither 1 nor 2");
        // 50:3(20:1(10:0,30:0),70:2(60:0,80:1(-,90:0)))
        int[][] rows = {{0, 2, 0}, {0, 3, NONE}, {0, 4, 0}, {1, 0, 0}, {1, 1, NONE}, {1, 2, NONE}, {1, 3, 0},
            {2, -1, 2}, {2, 0, NONE}, {2, 1, 1}, {4, 1, 4}, {4, 2, NONE}, {4, 3, 0}, {5, 1, 5}, {5, 2, 4}, {5, -1, 4},
            {6, 0, 6}, {6, 1, NONE}, {6, 2, 4}, {7, -1, 7}, {7, 0, NONE}, {7, 1, 6}, {7, 30, 6}};
        for (int[] row : rows) {
            edges.due("audit(" + row[0] + ", " + row[1] + ")", Starts.eight().audit(row[0], row[1]), row[2]);
        }
    }

    private void auditWithoutChildren() {
        edges.sentence(19, "or it has no CHILDREN, and RANK not 0 (all others keep their RANKS); NONE");
        edges.due("the only one, RANK 0", Starts.one().audit(0, 0), NONE);
        edges.due("the only one, RANK 1: its STEPS are 2", Starts.one().audit(0, 1), 0);
        edges.due("the only one, RANK -1", Starts.one().audit(0, -1), 0);
        // 50:3(20:1(10:0,30:0),..): 30 with RANK 1 has STEP 0 below 20; 60 with RANK 1 has STEP 1 below 70
        edges.due("its PARENT is wrong ahead of it", Starts.eight().audit(3, 1), 1);
        edges.due("its PARENT is right", Starts.eight().audit(5, 1), 5);
    }

    private void auditMissingChild() {
        edges.sentence(19, "A CHILD that there is not has RANK -1.");
        // 5:1(1:0,-): with RANK 2 the one that there is not has STEP 3, the other one 2
        edges.due("STEP 2 of none", Starts.of(5, 1).audit(0, 1), NONE);
        edges.due("STEP 3 of none", Starts.of(5, 1).audit(0, 2), 0);
        edges.due("STEP 3 of none, on the other side", Starts.of(5, 9).audit(0, 2), 0);
        edges.due("STEP 1 of none, 0 of the other", Starts.of(5, 9).audit(0, 0), 0);
        // 5:2(1:0,9:1(-,10:0)): 9 with RANK 0
        edges.due("STEP 0 of one below", Starts.of(5, 1, 9, 10).audit(2, 0), 2);
    }

    private void auditAsItIs() {
        edges.sentence(19, "AUDIT with a told RANK for a NODE in place of its own");
        RankIndex x = Starts.full();
        for (int n = 0; n < 60; n++) {
            edges.due("full: audit(" + n + ", its own)", x.audit(n, x.node(n, 1)), NONE);
        }
        RankIndex y = Starts.eight();
        y.audit(7, 30);
        edges.due("a told one is not kept", y.audit(0, 3), NONE);
    }

    private void askedChangesNothing() {
        edges.sentence(15, "ASKED, nothing changes by it.");
        edges.changesNothing("less(55)", Starts::rich, x -> x.less(55));
        edges.sentence(16, "ASKED, nothing changes by it.");
        edges.changesNothing("beside(55, 0)", Starts::rich, x -> x.beside(55, 0));
        edges.changesNothing("beside(55, 1)", Starts::rich, x -> x.beside(55, 1));
        edges.sentence(17, "ASKED, nothing changes by it.");
        edges.changesNothing("between(20, 55, 0)", Starts::rich, x -> x.between(20, 55, 0));
        edges.changesNothing("between(20, 55, 1)", Starts::rich, x -> x.between(20, 55, 1));
        edges.changesNothing("between(20, 55, 2)", Starts::rich, x -> x.between(20, 55, 2));
        edges.sentence(18, "ASKED, nothing changes by it.");
        edges.changesNothing("way(90, 1)", Starts::rich, x -> x.way(90, 1));
        edges.sentence(19, "ASKED, nothing changes by it.");
        edges.changesNothing("audit(0, 30)", Starts::rich, x -> x.audit(0, 30));
        edges.changesNothing("audit(3, -1)", Starts::rich, x -> x.audit(3, -1));
        edges.changesNothing("full: audit(59, 9)", Starts::full, x -> x.audit(59, 9));
    }
}
