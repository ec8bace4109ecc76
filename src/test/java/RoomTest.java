import java.lang.management.ManagementFactory;

/** All calls of a run live in one room: an object is small, and a call that throws nothing makes no objects. */
public final class RoomTest {
    private static final Checks CHECKS = new Checks();
    private static final com.sun.management.ThreadMXBean ROOM =
            (com.sun.management.ThreadMXBean) ManagementFactory.getThreadMXBean();
    // Room for what the Java machine itself makes when a method runs for the first time.
    private static final long LITTLE = 60_000;
    private static final int CALLS = 512;

    public static void main(String[] args) {
        bytesNow();
        long before = bytesNow();
        ChairLift lift = full();
        CHECKS.isTrue("a lift and its groups are small", bytesNow() - before < LITTLE);
        looksAheadMakeNothing(lift);
        stepsAndGroupsMakeNothing();
        CHECKS.end();
    }

    private static long bytesNow() {
        return ROOM.getThreadAllocatedBytes(Thread.currentThread().getId());
    }

    private static ChairLift full() {
        ChairLift lift = new ChairLift();
        for (int chair = 0; chair < 20; chair++) {
            lift.addChair(6);
        }
        for (int lane = 0; lane < 4; lane++) {
            lift.addLane();
        }
        for (int group = 0; group < 90; group++) {
            lift.join(group % 4, 6, 200);
        }
        lift.want(3);
        return lift;
    }

    private static void looksAheadMakeNothing(ChairLift lift) {
        long before = bytesNow();
        for (int call = 0; call < CALLS; call++) {
            lift.needs(500, 100);
            lift.advise(6);
            lift.when(89);
            lift.foresee(150, 2);
            lift.digest();
            lift.mean();
        }
        CHECKS.isTrue("looks ahead make nothing", bytesNow() - before < LITTLE);
    }

    private static void stepsAndGroupsMakeNothing() {
        ChairLift lift = full();
        long before = bytesNow();
        for (int call = 0; call < CALLS; call++) {
            lift.change(call % 90, call % 4);
            lift.shut(0, false);
            lift.count(call % 13);
            lift.lane(0, 1);
        }
        lift.leave(3);
        for (int call = 0; call < CALLS; call++) {
            lift.pass(200);
        }
        CHECKS.isTrue("steps make nothing", bytesNow() - before < LITTLE);
    }
}
