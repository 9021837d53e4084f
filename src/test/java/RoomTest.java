import com.sun.management.ThreadMXBean;
import java.lang.management.ManagementFactory;

/** All calls of a run share one room: an object is made once, and its calls make nothing more. */
public final class RoomTest {
    private static final Due DUE = new Due("RoomTest");
    /** With the first two, as many calls as an object is made for. */
    private static final int ROUNDS = 31;
    private static final long MOST_BYTES_OF_OBJECT = 100_000;
    /** Next to nothing for so many calls; the machine itself may need a little. */
    private static final long MOST_BYTES_OF_CALLS = 20_000;

    public static void main(String[] args) {
        if (!(ManagementFactory.getThreadMXBean() instanceof ThreadMXBean machine)) {
            System.out.println("RoomTest: left out, as this machine cannot tell what is made");
            return;
        }
        run(new RankIndex());
        long start = machine.getCurrentThreadAllocatedBytes();
        RankIndex x = new RankIndex();
        long made = machine.getCurrentThreadAllocatedBytes();
        run(x);
        long end = machine.getCurrentThreadAllocatedBytes();
        DUE.due("an object of " + (made - start) + " bytes is small", made - start <= MOST_BYTES_OF_OBJECT, true);
        DUE.due("calls that make " + (end - made) + " bytes make little", end - made <= MOST_BYTES_OF_CALLS, true);
        DUE.end();
    }

    private static void run(RankIndex x) {
        x.batch(30, 0, 3);
        x.batch(30, 1, 3);
        for (int i = 0; i < ROUNDS; i++) {
            x.told(13);
            x.node(i, 5);
            x.key(3 * i, 1);
            x.at(i);
            x.take(3 * i % 90);
            x.put(3 * i % 90, i);
            x.worth(3, i);
            x.cut(2);
            x.keep(i % 2);
            x.rebuild();
            x.drift(12);
            x.audit(i, 3);
            x.join(i % 2);
            x.between(0, 100, 2);
            x.undo(12);
            x.goBack(i % 2);
        }
    }
}
