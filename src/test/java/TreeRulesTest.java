/** Every way in which a key comes or goes (PUT, TAKEN of the document), on both sides. */
public final class TreeRulesTest {
    private static final Due DUE = new Due("TreeRulesTest");

    public static void main(String[] args) {
        aKeyThatComes();
        aKeyThatGoes();
        keysExchanged();
        DUE.end();
    }

    /** Does the deeds (a number is put, one behind a minus taken), looks at the tree and at the latest counts. */
    private static void rule(String deeds, String shape, String latest) {
        DUE.due(deeds, Look.shape(done(deeds, false)), shape);
        DUE.due(deeds + " in a mirror", Look.mirrored(done(deeds, true)), shape);
        DUE.due(deeds + ": latest", Look.latest(done(deeds, false)), latest);
        DUE.due(deeds + " in a mirror: latest", Look.latest(done(deeds, true)), latest);
    }

    /** The same for what is not alike in a mirror. */
    private static void rightRule(String deeds, String shape, String latest) {
        DUE.due(deeds, Look.shape(done(deeds, false)), shape);
        DUE.due(deeds + ": latest", Look.latest(done(deeds, false)), latest);
    }

    private static RankIndex done(String deeds, boolean mirrored) {
        RankIndex x = new RankIndex();
        for (String deed : deeds.split(" ")) {
            boolean goes = deed.startsWith("-");
            int number = Integer.parseInt(goes ? deed.substring(1) : deed);
            int key = mirrored ? Look.MIRROR - number : number;
            if (goes) {
                DUE.due(deeds + ": take " + key, x.take(key), number);
            } else {
                x.put(key, number);
                DUE.due(deeds + ": worth of " + key, x.key(key, 0), number);
            }
        }
        return x;
    }

    private static void aKeyThatComes() {
        rule("50", "50:0", "0 0 0");
        rule("50 30", "50:1(30:0,-)", "1 0 0");
        rule("50 30 70", "50:1(30:0,70:0)", "0 0 0");
        rule("50 30 70 20", "50:2(30:1(20:0,-),70:0)", "2 0 0");
        // x turns over the parent; the inner child is not there
        rule("30 20 10", "20:1(10:0,30:0)", "1 0 1");
        // the inner child, not there before, turns twice
        rule("30 10 20", "20:1(10:0,30:0)", "1 0 2");
        // promoted, then turned; the inner child goes over to the parent
        rule("1 2 3 4 5 6", "4:2(2:1(1:0,3:0),5:1(-,6:0))", "2 0 1");
        // promoted, then turned twice; the inner child's children go to both sides
        rule("2 1 5 3 6 4", "3:2(2:1(1:0,-),5:1(4:0,6:0))", "2 0 2");
        // promoted up to the top
        rule("4 2 6 1 3 5 7 8", "4:3(2:1(1:0,3:0),6:2(5:0,7:1(-,8:0)))", "3 0 0");
        // turned below the top, which stays
        rule("4 2 6 1 3 5 7 8 9", "4:3(2:1(1:0,3:0),6:2(5:0,8:1(7:0,9:0)))", "1 0 1");
    }

    private static void aKeyThatGoes() {
        rule("50 -50", "-", "0 0 0");
        rule("50 30 -50", "30:0", "0 0 0");
        rule("50 30 70 -30", "50:1(-,70:0)", "0 0 0");
        // the parent is left without children
        rule("50 30 -30", "50:0", "0 1 0");
        // a node with one child goes: its child in its place
        rule("2 1 3 4 -3", "2:2(1:0,4:0)", "0 0 0");
        // the parent is left without children, and that is the end above it
        rule("2 1 3 4 -4", "2:2(1:0,3:0)", "0 1 0");
        // sibling of step 2: the parent is demoted
        rule("2 1 3 4 -4 -1", "2:1(-,3:0)", "0 1 0");
        // the sibling turns over the parent, which keeps a child
        rule("2 1 4 3 5 -1", "4:2(2:1(-,3:0),5:0)", "0 0 1");
        // the sibling turns over the parent, which is left without children
        rule("2 1 4 5 -1", "4:2(2:0,5:0)", "0 0 1");
        // the sibling's inner child turns twice
        rule("2 1 4 3 -1", "3:2(2:0,4:0)", "0 0 2");
        // the sibling of step 1 has two children of step 2: both it and the parent are demoted
        rule("4 2 6 1 3 5 7 8 -8 -1 -3", "4:2(2:0,6:1(5:0,7:0))", "0 3 0");
        // three below after a demotion: the sibling turns over the parent, the inner child moves
        rule("4 2 6 1 3 5 7 8 -1 -3", "6:3(4:2(2:0,5:0),7:1(-,8:0))", "0 1 1");
        // three below after a demotion: the sibling's inner child, with a child, turns twice
        rule("10 5 20 4 15 30 12 -4", "15:3(10:1(5:0,12:0),20:1(-,30:0))", "0 1 2");
    }

    private static void keysExchanged() {
        rightRule("2 1 3 -2", "3:1(1:0,-)", "0 0 0");
        // the least key below the right child lies deeper
        rightRule("4 2 6 1 3 5 7 -4", "5:2(2:1(1:0,3:0),6:1(-,7:0))", "0 0 0");
        // that one's right child comes in its place
        rightRule("4 2 8 1 3 6 9 7 -4", "6:3(2:1(1:0,3:0),8:2(7:0,9:0))", "0 0 0");
        // the exchange leaves a gap below the place where the key was
        rightRule("2 1 3 4 -4 -2", "3:1(1:0,-)", "0 1 0");
        rightRule("3 1 4 2 -3", "2:2(1:0,4:0)", "0 0 2");
        rightRule("3 2 4 1 -3", "2:2(1:0,4:0)", "0 0 1");
    }
}
