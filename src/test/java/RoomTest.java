import java.lang.management.ManagementFactory;

/**
 * All calls of a run share one room, and nothing is given back in it: an object makes its rows when it is made, and the
 * calls, the dearest ones too, make none.
 */
public final class RoomTest {

    private static final int BYTES_FOR_THE_MEASURE = 4096;

    public static void main(String[] args) {
        com.sun.management.ThreadMXBean threads =
                (com.sun.management.ThreadMXBean) ManagementFactory.getThreadMXBean();
        if (!threads.isThreadAllocatedMemorySupported()) {
            System.out.println("RoomTest: this machine does not count what is made");
            return;
        }
        play(prepared());
        DesiredStateKeeper keeper = prepared();
        long before = threads.getCurrentThreadAllocatedBytes();
        play(keeper);
        long made = threads.getCurrentThreadAllocatedBytes() - before;
        Checks.due("calls make objects (" + made + " bytes)", made > BYTES_FOR_THE_MEASURE, false);
        Checks.end("RoomTest");
    }

    private static DesiredStateKeeper prepared() {
        return Checks.keeper("D56350" + "01210" + "012345" + "n0112n1122x2233n3142n4253x0253n5311x1243n2111x4321"
                + "w001w112w223w031w042w453");
    }

    private static void play(DesiredStateKeeper k) {
        for (int i = 0; i < 12; i++) {
            k.errorPosition();
            k.load();
            k.approve(1, 2, i % 5);
            k.wish(i % 5, i % 6, 3);
            k.wishRing(1, i % 6, 2);
            k.drift(i % 5, i % 6, i % 4);
            k.setFaults(i % 5, 4);
            k.setQuorum(i % 6, 0);
            k.tick(50);
            k.save(i % 2);
            k.restore(i % 2);
            k.dismiss(i % 5);
            k.undo();
            sum += k.state(0, 0) + k.next(1) + k.breaks(0, 1, 2) + k.holdsUp(3) + k.missing(4);
            sum += k.ahead(99, 4, 6) + k.calmAfter() + k.simulate(i, 60) + k.runScript(4, 4050_4050_4050_4050L);
            sum += k.fewest(i % 5) + k.step(i % 5, 3) + k.needed(0, 3, 5) + k.explains(0, 20) + k.ranked(2);
            sum += k.about(7) + k.node(3, 5) + (k.isPossible(5, 3) ? 1 : 0);
        }
    }

    private static int sum = 0;
}
