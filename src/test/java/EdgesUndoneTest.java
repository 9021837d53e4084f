import java.io.IOException;

/** Boundary cases of promises 13 and 14: times by draws, and what is undone. */
public final class EdgesUndoneTest {
    private static final int OUTSIDE = Edges.OUTSIDE, NOT = Edges.NOT;
    private static final int LOW = Edges.LOW, HIGH = Edges.HIGH;

    private final Edges edges;

    private EdgesUndoneTest() throws IOException {
        edges = new Edges("EdgesUndoneTest");
    }

    public static void main(String[] args) throws IOException {
        EdgesUndoneTest test = new EdgesUndoneTest();
        test.driftTimes();
        test.driftFirstSeed();
        test.driftWrapsAround();
        test.driftKinds();
        test.driftLeastAndGreatest();
        test.driftRoom();
        test.driftTakes();
        test.driftEachTime();
        test.undoHowMany();
        test.undoNotSoMany();
        test.undoTwelveKept();
        test.undoRingWrapsAround();
        test.undoSinceImage();
        test.undoSeedStays();
        test.undoCountsReturn();
        test.undoEachDeed();
        test.undoEachTime();
        test.undoDeedsWithoutChange();
        test.undoWhatIsNoDeed();
        test.edges.end();
    }

    private void driftTimes() {
        edges.sentence(13, "n times BY DRAWS (1 .. 12): KEYS. OUTSIDE.");
        edges.due("drift(1)", Starts.empty().drift(1), 1);
        RankIndex x = new RankIndex();
        RankIndex y = new RankIndex();
        int last = 0;
        for (int i = 0; i < 12; i++) {
            last = y.drift(1);
        }
        edges.due("drift(12): KEYS", x.drift(12), last);
        edges.due("as twelve times one", Look.now(x), Look.now(y));
        for (int n : new int[] {0, 13, -1, 14, LOW, HIGH}) {
            edges.refused("drift(" + n + ")", Starts::rich, z -> z.drift(n), OUTSIDE);
            edges.refused("empty: drift(" + n + ")", Starts::empty, z -> z.drift(n), OUTSIDE);
            edges.refused("full: drift(" + n + ")", Starts::full, z -> z.drift(n), OUTSIDE);
        }
    }

    private void driftFirstSeed() {
        edges.sentence(13, "THE SEED (0 at first: each DRAW it becomes it times 1103515245 and 12345");
        // 12345, of 3: 0; 1406932606, of 200: 68; 654583775, of 100: 88
        RankIndex x = new RankIndex();
        edges.due("drift(1)", x.drift(1), 1);
        edges.due("KEY and WORTH", Look.keys(x), "68=88");
        edges.due("THE SEED", x.seed(0), 654583775);
    }

    private void driftWrapsAround() {
        edges.sentence(13, "left over by 2 to the 31");
        for (int start : new int[] {1, 2, HIGH, HIGH - 1, 1073741823, 1073741824}) {
            HandDraws draws = new HandDraws(start);
            int kind = draws.draw(3);
            int key = draws.draw(200);
            String want = kind == 2 ? "" : key + "=" + draws.draw(100);
            RankIndex x = new RankIndex();
            x.seed(start);
            x.drift(1);
            edges.due("from " + start, Look.keys(x), want);
            edges.due("THE SEED from " + start, x.seed(0), draws.seed());
        }
    }

    private void driftKinds() {
        edges.sentence(13, "on 0, 1 that KEY is PUT");
        for (int kind = 0; kind <= 1; kind++) {
            RankIndex x = new RankIndex();
            x.seed(HandDraws.startFor(kind, 50));
            edges.due("on " + kind, x.drift(1), 1);
            edges.due("the KEY on " + kind, x.at(0), 50);
            RankIndex y = Starts.of(50);
            y.seed(HandDraws.startFor(kind, 50));
            edges.due("it is there: on " + kind, y.drift(1), 1);
            edges.due("it keeps its WORTH: on " + kind, y.key(50, 0), 5);
        }
    }

    private void driftLeastAndGreatest() {
        edges.sentence(13, "a DRAW of 3, of 200");
        edges.due("the least KEY, the most WORTH", drifted(0, 0, 99), "0=99");
        edges.due("the greatest KEY, the least WORTH", drifted(1, 199, 0), "199=0");
    }

    private static String drifted(int kind, int key, int worth) {
        RankIndex x = new RankIndex();
        x.seed(HandDraws.startFor(kind, key, worth));
        x.drift(1);
        return Look.keys(x);
    }

    private void driftRoom() {
        edges.sentence(13, "if it is not there and there is room, WORTH a DRAW of 100 (drawn just then)");
        int start = HandDraws.startFor(0, 51);
        edges.due("60: none comes", seedAfter(Starts.full(), start, 60), seedOf(start, 2));
        RankIndex x = Starts.full();
        x.take(0);
        edges.due("59: one comes", seedAfter(x, start, 60), seedOf(start, 3));
        edges.due("it is there: no WORTH is drawn", seedAfter(Starts.of(51), start, 1), seedOf(start, 2));
        edges.due("it is not there", seedAfter(Starts.of(50), start, 2), seedOf(start, 3));
        int there = HandDraws.startFor(1, 50);
        edges.due("60, and it is there", seedAfter(Starts.full(), there, 60), seedOf(there, 2));
    }

    private int seedAfter(RankIndex x, int start, int keys) {
        x.seed(start);
        edges.due("KEYS", x.drift(1), keys);
        return x.seed(0);
    }

    private static int seedOf(int start, int draws) {
        HandDraws hand = new HandDraws(start);
        for (int i = 0; i < draws; i++) {
            hand.draw(1);
        }
        return hand.seed();
    }

    private void driftTakes() {
        edges.sentence(13, "on 2 it is TAKEN, if it is there");
        int start = HandDraws.startFor(2, 50);
        edges.due("it is there: two DRAWS", seedAfter(Starts.of(50, 60), start, 1), seedOf(start, 2));
        edges.due("it is not there: two DRAWS", seedAfter(Starts.of(51, 60), start, 2), seedOf(start, 2));
        edges.due("empty: two DRAWS", seedAfter(Starts.empty(), start, 0), seedOf(start, 2));
        edges.due("full: two DRAWS", seedAfter(Starts.full(), start, 59), seedOf(start, 2));
        RankIndex x = Starts.of(30, 20, 10);
        x.seed(start);
        x.drift(1);
        edges.due("not there: the counts stay", Look.counts(x), "2 0 1 / 1 0 1");
    }

    private void driftEachTime() {
        edges.sentence(13, "each of the times BY DRAWS");
        for (int n = 1; n <= 12; n++) {
            RankIndex x = Starts.rich();
            x.drift(n);
            edges.due("drift(" + n + ")", x.told(16), Math.min(12, 4 + n));
        }
        RankIndex y = new RankIndex();
        y.seed(HandDraws.startFor(2, 50));
        y.drift(1);
        edges.due("without effect", y.told(16), 1);
    }

    private void undoHowMany() {
        edges.sentence(14, "The n latest (1 .. 12) are undone: KEYS.");
        edges.due("undo(1)", Starts.rising(12).undo(1), 11);
        edges.due("undo(12)", Starts.rising(12).undo(12), 0);
        edges.due("undo(12) of 60", Starts.rising(60).undo(12), 48);
        edges.sentence(14, "are undone: KEYS. OUTSIDE, NOT");
        for (int n : new int[] {0, 13, -1, 14, LOW, HIGH}) {
            edges.refused("undo(" + n + ")", Starts::rich, x -> x.undo(n), OUTSIDE);
            edges.refused("OUTSIDE ahead of NOT: undo(" + n + ")", Starts::empty, x -> x.undo(n), OUTSIDE);
            edges.refused("12 can be: undo(" + n + ")", () -> Starts.rising(14), x -> x.undo(n), OUTSIDE);
        }
    }

    private void undoNotSoMany() {
        edges.sentence(14, "NOT: not so many.");
        edges.refused("none: undo(1)", Starts::empty, x -> x.undo(1), NOT);
        edges.refused("none: undo(12)", Starts::empty, x -> x.undo(12), NOT);
        for (int deeds = 1; deeds <= 11; deeds++) {
            int more = deeds + 1;
            int keys = deeds;
            edges.refused(deeds + ": undo(" + more + ")", () -> Starts.rising(keys), x -> x.undo(more), NOT);
            edges.due(deeds + ": undo(" + deeds + ")", Starts.rising(deeds).undo(deeds), 0);
        }
        RankIndex x = Starts.rising(12);
        x.undo(5);
        edges.due("seven left: undo(8)", x.undo(8), NOT);
        edges.due("seven left: undo(7)", x.undo(7), 0);
        edges.due("none left: undo(1)", x.undo(1), NOT);
    }

    private void undoTwelveKept() {
        edges.sentence(14, "(12 at most are kept)");
        for (int deeds = 12; deeds <= 26; deeds++) {
            RankIndex x = Starts.rising(deeds);
            edges.due(deeds + ": how many", x.told(16), 12);
            edges.due(deeds + ": undo(12)", x.undo(12), deeds - 12);
            edges.due(deeds + ": the oldest has given way", Look.tree(x), Look.tree(Starts.rising(deeds - 12)));
            edges.due(deeds + ": undo(1)", x.undo(1), NOT);
        }
    }

    private void undoRingWrapsAround() {
        edges.sentence(14, "the latest deeds");
        for (int back = 1; back <= 12; back++) {
            RankIndex x = Starts.rising(20);
            x.undo(back);
            for (int i = 0; i < back; i++) {
                x.put(1000 + i, 1);
            }
            edges.due("12 again after undo(" + back + ")", x.told(16), 12);
            edges.due("the new ones undone", x.undo(back), 20 - back);
            edges.due("as ahead of them", Look.tree(x), Look.tree(Starts.rising(20 - back)));
            edges.due("how many then", x.told(16), 12 - back);
        }
        RankIndex y = Starts.rising(20);
        y.undo(12);
        for (int i = 1; i <= 5; i++) {
            y.put(1000 + i, 1);
            edges.due("from none on", y.told(16), i);
        }
        edges.due("from none on, undone", y.undo(5), 8);
    }

    private void undoSinceImage() {
        edges.sentence(14, "since the IMAGE");
        RankIndex x = Starts.rising(5);
        x.keep(0);
        edges.due("kept: undo(1)", x.undo(1), NOT);
        x.put(50, 0);
        x.put(51, 0);
        edges.due("two since: undo(3)", x.undo(3), NOT);
        edges.due("two since: undo(2)", x.undo(2), 5);
        x.put(60, 0);
        x.goBack(0);
        edges.due("gone back: undo(1)", x.undo(1), NOT);
        x.put(70, 0);
        edges.due("one since: undo(2)", x.undo(2), NOT);
        edges.due("one since: undo(1)", x.undo(1), 5);
    }

    private void undoSeedStays() {
        edges.sentence(14, "THE TREE, COUNTS are as ahead of them; THE SEED stays");
        RankIndex x = new RankIndex();
        x.seed(9);
        x.drift(12);
        int seed = Look.seed(x);
        edges.due("undo(12): KEYS", x.undo(12), 0);
        edges.due("THE SEED", Look.seed(x), seed);
        x.put(1, 1);
        x.seed(HIGH);
        x.undo(1);
        edges.due("one told later", Look.seed(x), HIGH);
    }

    private void undoCountsReturn() {
        edges.sentence(14, "COUNTS are as ahead of them");
        RankIndex x = Starts.of(30, 20, 10);
        edges.due("ahead of it", Look.counts(x), "2 0 1 / 1 0 1");
        x.take(10);
        x.take(30);
        edges.due("after it", Look.counts(x), "2 1 1 / 0 1 0");
        x.undo(1);
        edges.due("one undone", Look.counts(x), "2 0 1 / 0 0 0");
        x.undo(1);
        edges.due("two undone", Look.counts(x), "2 0 1 / 1 0 1");
        x.undo(3);
        edges.due("all undone", Look.counts(x), "0 0 0 / 0 0 0");
    }

    private void undoEachDeed() {
        edges.sentence(14, "put(), take(), worth(), cut(), batch(), rebuild(), join(), each of the times BY DRAWS");
        for (int deeds = 1; deeds <= 8; deeds++) {
            RankIndex x = afterDeeds(deeds);
            edges.due("deed " + deeds + " can be undone", x.told(16), 4 + deeds);
            x.undo(1);
            edges.due("deed " + deeds + " undone", Look.tree(x), Look.tree(afterDeeds(deeds - 1)));
            RankIndex y = afterDeeds(8);
            y.undo(deeds);
            edges.due(deeds + " undone at once", Look.tree(y), Look.tree(afterDeeds(8 - deeds)));
        }
    }

    private void undoEachTime() {
        edges.sentence(14, "each of the times BY DRAWS");
        for (int n = 1; n <= 12; n++) {
            RankIndex x = Starts.rich();
            x.drift(12);
            x.undo(n);
            RankIndex y = Starts.rich();
            if (n < 12) {
                y.drift(12 - n);
            }
            edges.due(n + " of 12 undone", Look.tree(x), Look.tree(y));
        }
    }

    private static RankIndex afterDeeds(int deeds) {
        RankIndex x = Starts.rich();
        for (int deed = 0; deed < deeds; deed++) {
            doDeed(x, deed);
        }
        return x;
    }

    private static void doDeed(RankIndex x, int deed) {
        switch (deed) {
            case 0: x.put(5, 1); break;
            case 1: x.take(50); break;
            case 2: x.worth(30, 9999); break;
            case 3: x.cut(31); break;
            case 4: x.batch(3, 61, 1); break;
            case 5: x.rebuild(); break;
            case 6: x.join(0); break;
            default: x.seed(HandDraws.startFor(0, 150)); x.drift(1); break;
        }
    }

    /** The document counts deeds, not changes. */
    private void undoDeedsWithoutChange() {
        edges.sentence(14, "the latest deeds (put(), take(), worth()");
        RankIndex x = Starts.eight();
        x.keep(0);
        String before = Look.tree(x);
        x.worth(30, 3);
        edges.due("worth() as it was", x.told(16), 1);
        x.cut(0);
        edges.due("cut() of none", x.told(16), 2);
        x.batch(1, 30, 1);
        edges.due("batch() of none", x.told(16), 3);
        x.join(0);
        edges.due("join() of none", x.told(16), 4);
        x.seed(HandDraws.startFor(2, 1));
        x.drift(1);
        edges.due("drift() of none", x.told(16), 5);
        edges.due("nothing has changed", Look.tree(x), before);
        edges.due("five undone", x.undo(5), 8);
        edges.due("nothing has changed then", Look.tree(x), before);
    }

    private void undoWhatIsNoDeed() {
        edges.sentence(14, "What is refused changes nothing.");
        RankIndex x = Starts.rich();
        x.put(20, 1);
        x.put(-1, 1);
        x.take(10);
        x.take(-1);
        x.worth(10, 1);
        x.worth(20, -1);
        x.cut(-1);
        x.batch(0, 0, 1);
        x.join(2);
        x.drift(0);
        x.undo(13);
        x.undo(5);
        x.keep(2);
        x.goBack(2);
        edges.due("no deed by what is refused", x.told(16), 4);
        x.seed(1);
        x.less(1);
        x.beside(1, 1);
        x.between(1, 2, 1);
        x.way(20, 1);
        x.audit(0, 0);
        edges.due("none by what is asked, none by THE SEED", x.told(16), 4);
        x.undo(1);
        edges.due("undoing is none, but one less", x.told(16), 3);
    }
}
