/** Objects to begin a test with, each made anew. */
final class Starts {
    private Starts() {
    }

    static RankIndex empty() {
        return new RankIndex();
    }

    static RankIndex one() {
        return of(7);
    }

    static RankIndex of(int... keys) {
        RankIndex x = new RankIndex();
        for (int key : keys) {
            x.put(key, key / 10);
        }
        return x;
    }

    /** 50:3(20:1(10:0,30:0),70:2(60:0,80:1(-,90:0))), WORTH a tenth of each key, eight deeds. */
    static RankIndex eight() {
        return of(50, 20, 70, 10, 30, 60, 80, 90);
    }

    /** The keys 20 .. 90 by tens, both images kept, each with a seed of its own, four deeds since. */
    static RankIndex rich() {
        RankIndex x = new RankIndex();
        x.batch(3, 200, 50);
        x.seed(11);
        x.keep(0);
        x.cut(100000);
        for (int key : new int[] {50, 20, 70, 10, 30, 60, 80, 90}) {
            x.put(key, key / 10);
        }
        x.seed(22);
        x.keep(1);
        x.put(40, 4);
        x.take(10);
        x.worth(30, 33);
        x.put(45, 4);
        x.seed(33);
        return x;
    }

    /** The same with image 1 alone kept. */
    static RankIndex withImage1() {
        RankIndex x = eight();
        x.seed(22);
        x.keep(1);
        x.take(10);
        x.put(100, 1);
        return x;
    }

    /** The keys 0, 2 .. 118, WORTH 1; image 0 has the first thirty, one deed since. */
    static RankIndex full() {
        RankIndex x = new RankIndex();
        x.batch(30, 0, 2);
        x.seed(5);
        x.keep(0);
        x.batch(30, 60, 2);
        return x;
    }

    /** So many keys, 1, 2, 3 and so on. */
    static RankIndex rising(int keys) {
        RankIndex x = new RankIndex();
        for (int key = 1; key <= keys; key++) {
            x.put(key, 0);
        }
        return x;
    }
}
